/-! FITS, SPAN, AGO */ -/
theorem fitB_s {h : Nat} {kn pw : Nat → Int32} : fitB (h + 1) kn pw = (fitB h kn pw && (decide (kn h = -1) || decide (kn h = pw h))) := by
  cases e : fitB (h + 1) kn pw with
  | true =>
    rw [fitB_t] at e
    have a : fitB h kn pw = true := fitB_t.2 (fun i hi => e i (by omega))
    rw [a]
    rcases e h (by omega) with c | c
    · simp [c]
    · simp [c]
  | false =>
    cases a : fitB h kn pw with
    | false => rfl
    | true =>
      have hn : ¬ (kn h = -1 ∨ kn h = pw h) := fun c => by
        have : fitB (h + 1) kn pw = true := fitB_t.2 (fun i hi => by
          by_cases q : i = h
          · subst q; exact c
          · exact fitB_t.1 a i (by omega))
        rw [e] at this
        exact absurd this (by decide)
      have h1 : ¬ kn h = -1 := fun c => hn (Or.inl c)
      have h2 : ¬ kn h = pw h := fun c => hn (Or.inr c)
      simp [h1, h2]
section TRY
variable {R : zR} {M : zM} {ru : zRu} {q l n T S u x : Nat}
/-- the reference pays from a row -/
theorem X12_payRow (h : zSt R M ru q l n T S u x) (hT : T + 3100000 < 2147483648) {most k : Nat} (hm : most ≤ 20) (e : M 271 = baseF n (most + 1) k (rowF M)) : zT (f_X12_payAll R M 242 (M (R 242 25) (ztn (M 242 18))) (0 : Int32)) (fun M1 => M1 271 = payAllF n ru (ruT ru) 0 (baseF n (most + 1) k (rowF M)) ∧ zag mrA M M1) := by
  have hl := h.ll
  rw [h.l18, h.md.at (k := 25) (b := 254) rfl (by decide), ztn_nI (by omega), h.ms.2.2.1]
  refine zT_w (X12_payAll (s := 0) h.md h.ms h.l18 (by rw [e]; exact h.gd.base (by omega) (by omega)) (by omega) (by omega) (ruT ru)) ?_
  rintro M1 ⟨e1, g1⟩
  rw [e] at e1
  exact ⟨e1, g1⟩
theorem X12_fills (h : zSt R M ru q l n T S u x) (hT : T + 3100000 < 2147483648) {most k : Nat} (hm : most ≤ 20) (hm1 : 1 ≤ most) (hk : nI k ≤ M 242 53) (hk20 : k ≤ 20) {P : Nat → Bool} (hP : P = fun w => fitB n (knW M k) (payW n ru (baseF n (most + 1) w (rowF M)))) : zT (f_X12_fillsFits R M 242 (nI most) (nI k)) (fun p => ((most + 1) ^ n ≤ 200000 ∧ p.1 = nI (aggF P (fun _ => 0) 100 ((most + 1) ^ n)).1 ∧ (∀ hh, hh < n → p.2 279 hh = nI (aggF P (fun w => dig (most + 1) w hh) 100 ((most + 1) ^ n)).2.1 ∧ p.2 280 hh = nI (aggF P (fun w => dig (most + 1) w hh) 100 ((most + 1) ^ n)).2.2) ∨ ¬ (most + 1) ^ n ≤ 200000 ∧ p.1 = -2) ∧ zag zsr M p.2) := by
  have hn := h.n10
  obtain ⟨B, hB⟩ : ∃ B, B = most + 1 := ⟨_, rfl⟩
  obtain ⟨t, tt1, tt2, tt3, tt4⟩ := h.to
  have hkt : k ≤ t := by
    have := hk
    rw [tt3, nI_leI (by omega) (by omega)] at this
    exact this
  have r54 : R 242 54 = 276 := h.md.at rfl (by decide)
  have r55 : R 242 55 = 277 := h.md.at rfl (by decide)
  have r56 : R 242 56 = 278 := h.md.at rfl (by decide)
  have r57 : R 242 57 = 279 := h.md.at rfl (by decide)
  have r58 : R 242 58 = 280 := h.md.at rfl (by decide)
  have knin := knW_in h.to k hk hk20
  unfold f_X12_fillsFits
  refine zT_bd (zT_w (X12_rowsOf h hm) ?_)
  rintro y (⟨hN, rfl⟩ | ⟨hN, rfl⟩)
  rotate_left
  · exact zT_if0 (by decide) (zT_some ⟨Or.inr ⟨hN, rfl⟩, zag.rf⟩)
  rw [← hB] at hN ⊢
  refine zT_if1 (nI_pos' (by omega)) (zT_bd ?_)
  refine zT_w (Q := fun M1 : zM => (∀ j, j < 10 → M1 278 j = -1 ∧ M1 279 j = 100 ∧ M1 280 j = 0) ∧ zag (fun b _ => b = 278 ∨ b = 279 ∨ b = 280) M M1) (zT_for 10 (fun i v => v.1 = nI i ∧ (∀ j, j < i → v.2 278 j = -1 ∧ v.2 279 j = 100 ∧ v.2 280 j = 0) ∧ zag (fun b _ => b = 278 ∨ b = 279 ∨ b = 280) M v.2) ⟨rfl, fun j hj => absurd hj (by omega), zag.rf⟩ (by omega) ?_ ?_) ?_
  · rintro i ⟨y, M1⟩ hi ⟨rfl, d1, g1⟩
    simp only at d1 g1 ⊢
    have hz := zin_nI (k := i) (n := 10) (by omega) (by omega)
    unfold b_X12_fillsFits_16
    rw [r56, r57, r58, ztn_nI (by omega)]
    refine zT_if0 (by rw [nI_lit 10]; exact nI_ge (by omega) (by omega)) (zT_ck hz (zT_lt (zT_ck hz (zT_lt (zT_ck hz (zT_lt (zT_some ⟨nI_1 _, fun j hj => ?_, ((g1.up (by omega)).up (by omega)).up (by omega)⟩)))))))
    dsimp only
    rw [zup_a (a := 280) (b := 278) (by omega), zup_a (a := 279) (b := 278) (by omega), zup_a (a := 280) (b := 279) (by omega)]
    by_cases c : j = i
    · subst c
      rw [zup_same, zup_same, zup_same]
      exact ⟨rfl, rfl, rfl⟩
    · rw [zup_k c, zup_k c, zup_k c, zup_a (a := 278) (b := 279) (by omega), zup_a (a := 279) (b := 280) (by omega), zup_a (a := 278) (b := 280) (by omega)]
      exact d1 j (by omega)
  · rintro ⟨y, M1⟩ ⟨rfl, d1, g1⟩
    simp only at d1 g1 ⊢
    unfold b_X12_fillsFits_16
    exact zT_if1 (by decide) (zT_some ⟨d1, g1⟩)
  rintro M1 ⟨d1, g1⟩
  refine zT_bd ?_
  refine zT_w (Q := fun M2 : zM => (∀ j, j < 10 → M2 278 j = knW M k j ∧ M2 279 j = 100 ∧ M2 280 j = 0) ∧ zag (fun b _ => b = 278 ∨ b = 279 ∨ b = 280) M M2) (zT_for k (fun i v => v.1 = nI i ∧ (∀ j, j < 10 → v.2 278 j = knW M i j ∧ v.2 279 j = 100 ∧ v.2 280 j = 0) ∧ zag (fun b _ => b = 278 ∨ b = 279 ∨ b = 280) M v.2) ⟨rfl, d1, g1⟩ (by omega) ?_ ?_) ?_
  · rintro i ⟨y, M2⟩ hi ⟨rfl, d2, g2⟩
    simp only at d2 g2 ⊢
    obtain ⟨a76, a77, ⟨hs, hs10, es⟩, p, hp, ep⟩ := tt4 i (by omega)
    have hz := zin_nI (k := i) (n := 20) (by omega) (by omega)
    unfold b_X12_fillsFits_57
    rw [r54, r55, r56, ztn_nI (by omega), g2 276 i (by omega), g2 277 i (by omega), a76, a77, es]
    refine zT_if0 (nI_ge hi (by omega)) (zT_ck hz (zT_ck hz (zT_ck (zin_nI hs10 (by omega)) (zT_lt (zT_some ⟨nI_1 _, fun j hj => ?_, g2.up (by omega)⟩)))))
    dsimp only
    rw [ztn_nI (by omega), zup_a (a := 278) (b := 279) (by omega), zup_a (a := 278) (b := 280) (by omega)]
    have kS : knW M (i + 1) j = if hs = j then M 209 i else knW M i j := by
      show (if M 208 i = nI j then M 209 i else knW M i j) = _
      rw [es]
      by_cases c : hs = j
      · subst c
        rw [if_pos rfl, if_pos rfl]
      · rw [if_neg (fun q => c (nI_inj (by omega) (by omega) q)), if_neg c]
    rw [kS]
    refine ⟨?_, (d2 j hj).2⟩
    by_cases c : hs = j
    · subst c
      rw [zup_same, if_pos rfl]
    · rw [zup_k (Ne.symm c), if_neg c]
      exact (d2 j hj).1
  · rintro ⟨y, M2⟩ ⟨rfl, d2, g2⟩
    simp only at d2 g2 ⊢
    unfold b_X12_fillsFits_57
    exact zT_if1 (nI_le (Nat.le_refl _) (by omega)) (zT_some ⟨d2, g2⟩)
  rintro M2 ⟨d2, g2⟩
  have g2s : zag zsr M M2 := g2.mo (fun b k e => by unfold zsr; omega)
  have f2 : rowF M2 = rowF M := by unfold rowF; rw [g2.row (a := 270) (fun k => by omega), g2.row (a := 271) (fun k => by omega)]
  refine zT_bd ?_
  have bnd := fun (hh : Nat) (w : Nat) => aggF_b (P := P) (d := fun w => dig B w hh) (mi := 100) (mi' := 100) (t := 20) (fun k => by have := dig_lt (B := B) (k := k) (i := hh) (by omega); show dig B k hh ≤ 20; omega) (by omega) (by omega) w
  refine zT_w (Q := fun e : Int32 × zM => e.1 = nI (aggF P (fun _ => 0) 100 (B ^ n)).1 ∧ (∀ hh, hh < n → e.2 279 hh = nI (aggF P (fun w => dig B w hh) 100 (B ^ n)).2.1 ∧ e.2 280 hh = nI (aggF P (fun w => dig B w hh) 100 (B ^ n)).2.2) ∧ zag zsr M e.2) (zT_for (B ^ n) (fun w v => v.1 = nI (aggF P (fun _ => 0) 100 w).1 ∧ v.2.1 = nI w ∧ (∀ hh, hh < n → v.2.2 279 hh = nI (aggF P (fun w => dig B w hh) 100 w).2.1 ∧ v.2.2 280 hh = nI (aggF P (fun w => dig B w hh) 100 w).2.2) ∧ (∀ j, j < 10 → v.2.2 278 j = knW M k j) ∧ zag zsr M v.2.2 ∧ rowF v.2.2 = rowF M) ⟨rfl, rfl, fun hh hc => ⟨(d2 hh (by omega)).2.1, (d2 hh (by omega)).2.2⟩, fun j hj => (d2 j hj).1, g2s, f2⟩ (by omega) ?_ ?_) ?_
  · rintro w ⟨y, z, M3⟩ hw ⟨rfl, rfl, d3, k3, g3, f3⟩
    simp only at d3 k3 g3 f3 ⊢
    have h3 := h.sc (zsr.sc g3)
    unfold b_X12_fillsFits_94
    refine zT_if0 (nI_ge hw (by omega)) (zT_bd (zT_w (X12_takesRow h3 hm (k := w) (by omega)) ?_))
    rintro M4 ⟨e4, g4⟩
    rw [f3, ← hB] at e4
    have f4 : rowF M4 = rowF M := rowF_of f3 (g4.row (fun k => by omega)) (fun j hj => by rw [e4]; unfold baseF; rw [if_neg (by omega), if_neg (by omega)])
    have g34 := g3.tr (z271.sr g4)
    have h4 := h.sc (zsr.sc g34)
    have hl := h.ll
    refine zT_ck (by rw [h4.l18]; exact zin_nI hl (by omega)) (zT_bd ?_)
    refine zT_w (X12_payRow h4 hT hm (k := w) (by rw [e4, f4, hB])) ?_
    rintro M5 ⟨e5, g5⟩
    rw [f4, ← hB] at e5
    have g35 := g34.tr (mrA.sr g5)
    have hi5 : ∀ j, 60 ≤ j → M5 271 j = rowF M j := fun j hj => by
      rw [e5, payAllF_fx hn (Or.inr hj)]
      unfold baseF
      rw [if_neg (by omega), if_neg (by omega)]
    have f5 : rowF M5 = rowF M := rowF_of f4 (g5.row (fun k => by unfold mrA tlA; omega)) hi5
    have k5 : ∀ b j, b = 278 ∨ b = 279 ∨ b = 280 → M5 b j = M3 b j := fun b j hb => by rw [g5 b j (by unfold mrA tlA; omega), g4 b j (by omega)]
    have f40 : M5 271 (ztn (40 : Int32)) = nI n := by
      show M5 271 40 = nI n
      rw [e5]
      exact ((h.gd.base (B := B) (k := w) (by omega) (by omega)).payAll (by omega)).2.1
    -- does it fit
    have fit : zT (zloop zN (fun v => b_X12_fillsFits_127 R M5 242 (nI most) (nI (B ^ n)) (nI (aggF P (fun _ => 0) 100 w).1) (nI w) v.1 v.2) ((1 : Int32), (0 : Int32))) (fun e => e = if P w = true then 1 else 0) := by
      refine zT_for n (fun i v => v.2 = nI i ∧ v.1 = if fitB i (knW M k) (payW n ru (baseF n B w (rowF M))) = true then 1 else 0) ⟨rfl, ?_⟩ (by omega) ?_ ?_
      · show (1 : Int32) = if fitB 0 _ _ = true then 1 else 0
        rw [if_pos (fitB_t.2 (fun i hi => absurd hi (by omega)))]
      · rintro i ⟨y, z⟩ hi ⟨rfl, rfl⟩
        unfold b_X12_fillsFits_127 j_X12_fillsFits_174
        simp only
        have ck : M5 278 i = knW M k i := by rw [k5 278 i (Or.inl rfl)]; exact k3 i (by omega)
        have cp : M5 271 (20 + i) = payW n ru (baseF n B w (rowF M)) i := by rw [e5]; exact (payAll_end hn hi).2
        rw [h.r46, f40, r56, nI_lit 20, nI_add, ztn_nI (by omega), ztn_nI (by omega), ck, cp]
        refine zT_if0 (nI_ge hi (by omega)) ?_
        have fs := fitB_s (h := i) (kn := knW M k) (pw := payW n ru (baseF n B w (rowF M)))
        by_cases ca : fitB i (knW M k) (payW n ru (baseF n B w (rowF M))) = true
        · rw [ca, Bool.true_and] at fs
          rw [if_pos ca]
          refine zT_if0 (by decide) (zT_ck (zin_nI (by omega) (by omega)) ?_)
          rcases knin i with c | ⟨p, hp, c⟩
          · rw [c] at fs ⊢
            refine zT_if1 (by decide) (zT_some ⟨nI_1 _, ?_⟩)
            show (1 : Int32) = _
            rw [fs]
            rfl
          · have cn : ¬ knW M k i = -1 := by
              rw [c]
              intro e
              have : (0 : Int32) ≤ -1 := by rw [← e]; exact nI_pos' (by omega)
              exact absurd this (by decide)
            refine zT_if0 (by rw [c]; exact nI_pos (by omega)) (zT_ck (zin_nI (by omega) (by omega)) (zT_ck (zin_nI (by omega) (by omega)) (zT_if (fun e => zT_some ⟨nI_1 _, ?_⟩) (fun e => zT_some ⟨nI_1 _, ?_⟩))))
            · show (1 : Int32) = _
              rw [fs]
              simp [e]
            · show (0 : Int32) = _
              rw [fs]
              simp [e, cn]
        · have ca : fitB i (knW M k) (payW n ru (baseF n B w (rowF M))) = false := by simpa using ca
          rw [ca, Bool.false_and] at fs
          rw [ca]
          refine zT_if1 rfl (zT_some ⟨nI_1 _, ?_⟩)
          show (0 : Int32) = _
          rw [fs]
          rfl
      · rintro ⟨y, z⟩ ⟨rfl, rfl⟩
        unfold b_X12_fillsFits_127
        simp only
        rw [h.r46, f40]
        refine zT_if1 (nI_le (Nat.le_refl _) (by omega)) (zT_some ?_)
        rw [hP, ← hB]
        rfl
    have a1 := (aggF_1 (P := P) (d := fun _ => 0) (d' := fun _ => 0) (mi := 100) (mi' := 100) w).2
    refine zT_bd (zT_w fit ?_)
    rintro e rfl
    have agg1 : ∀ d, aggF P d 100 (w + 1) = if P w = true then ((aggF P d 100 w).1 + 1, if d w < (aggF P d 100 w).2.1 then d w else (aggF P d 100 w).2.1, if (aggF P d 100 w).2.2 < d w then d w else (aggF P d 100 w).2.2) else aggF P d 100 w := fun d => rfl
    by_cases hp : P w = true
    rotate_left
    · rw [if_neg hp]
      refine zT_if1 rfl (zT_some ⟨?_, nI_1 _, fun hh hc => ?_, fun j hj => ?_, g35, f5⟩)
      · rw [agg1, if_neg hp]
      · dsimp only
        rw [agg1, if_neg hp, k5 279 hh (by omega), k5 280 hh (by omega)]
        exact d3 hh hc
      · dsimp only
        rw [k5 278 j (by omega)]
        exact k3 j hj
    rw [if_pos hp]
    have h5 := h.sc (zsr.sc g35)
    refine zT_if0 (by decide) (zT_bd (zT_w (X12_takesRow h5 hm (k := w) (by omega)) ?_))
    rintro M6 ⟨e6, g6⟩
    rw [f5, ← hB] at e6
    have g36 := g35.tr (z271.sr g6)
    have f6 : rowF M6 = rowF M := rowF_of f5 (g6.row (fun k => by omega)) (fun j hj => by rw [e6]; unfold baseF; rw [if_neg (by omega), if_neg (by omega)])
    have k6 : ∀ b j, b = 278 ∨ b = 279 ∨ b = 280 → M6 b j = M3 b j := fun b j hb => by rw [g6 b j (by omega), k5 b j hb]
    refine zT_bd ?_
    refine zT_w (Q := fun M7 : zM => (∀ hh, hh < n → M7 279 hh = nI (aggF P (fun w => dig B w hh) 100 (w + 1)).2.1 ∧ M7 280 hh = nI (aggF P (fun w => dig B w hh) 100 (w + 1)).2.2) ∧ zag (fun b _ => b = 279 ∨ b = 280) M6 M7) (zT_for n (fun i v => v.1 = nI i ∧ (∀ hh, hh < n → v.2 279 hh = nI (aggF P (fun w => dig B w hh) 100 (if hh < i then w + 1 else w)).2.1 ∧ v.2 280 hh = nI (aggF P (fun w => dig B w hh) 100 (if hh < i then w + 1 else w)).2.2) ∧ zag (fun b _ => b = 279 ∨ b = 280) M6 v.2) ⟨rfl, fun hh hc => ?_, zag.rf⟩ (by omega) ?_ ?_) ?_
    · dsimp only
      rw [if_neg (by omega), k6 279 hh (by omega), k6 280 hh (by omega)]
      exact d3 hh hc
    · rintro i ⟨y, M7⟩ hi ⟨rfl, d7, g7⟩
      simp only at d7 g7 ⊢
      obtain ⟨u9, u10⟩ := d7 i hi
      rw [if_neg (by omega)] at u9 u10
      have bi := bnd i w
      have b9 : (aggF P (fun w => dig B w i) 100 w).2.1 ≤ 100 := by rcases bi.1 with ⟨_, a, _⟩ | ⟨_, _, a⟩ <;> omega
      have b10 : (aggF P (fun w => dig B w i) 100 w).2.2 ≤ 20 := bi.2.2
      have dl := dig_lt (B := B) (k := w) (i := i) (by omega)
      have row : M7 271 i = nI (dig B w i) := by
        rw [g7 271 i (by omega), e6]
        unfold baseF
        rw [if_pos hi]
      have f40' : M7 271 (ztn (40 : Int32)) = nI n := by
        show M7 271 40 = nI n
        rw [g7 271 40 (by omega), e6]
        exact (h.gd.base (B := B) (k := w) (by omega) (by omega)).2.1
      have hz := zin_nI (k := i) (n := 60) (by omega) (by omega)
      have hz2 := zin_nI (k := i) (n := 10) (by omega) (by omega)
      have aI := agg1 (fun w => dig B w i)
      rw [if_pos hp] at aI
      -- the greatest
      have tail : ∀ M8 : zM, M8 271 i = nI (dig B w i) → M8 280 i = nI (aggF P (fun w => dig B w i) 100 w).2.2 → M8 279 i = nI (if dig B w i < (aggF P (fun w => dig B w i) 100 w).2.1 then dig B w i else (aggF P (fun w => dig B w i) 100 w).2.1) → (∀ hh, hh ≠ i → M8 279 hh = M7 279 hh ∧ M8 280 hh = M7 280 hh) → zag (fun b _ => b = 279 ∨ b = 280) M6 M8 → zT (j_X12_fillsFits_251 R M8 242 (nI most) (nI (B ^ n)) (nI (aggF P (fun _ => 0) 100 w).1 + 1) (nI w) (nI i)) (Sum.elim (fun v1 => v1.1 = nI (i + 1) ∧ (∀ hh, hh < n → v1.2 279 hh = nI (aggF P (fun w => dig B w hh) 100 (if hh < i + 1 then w + 1 else w)).2.1 ∧ v1.2 280 hh = nI (aggF P (fun w => dig B w hh) 100 (if hh < i + 1 then w + 1 else w)).2.2) ∧ zag (fun b _ => b = 279 ∨ b = 280) M6 v1.2) (fun M7 => (∀ hh, hh < n → M7 279 hh = nI (aggF P (fun w => dig B w hh) 100 (w + 1)).2.1 ∧ M7 280 hh = nI (aggF P (fun w => dig B w hh) 100 (w + 1)).2.2) ∧ zag (fun b _ => b = 279 ∨ b = 280) M6 M7)) := by
        intro M8 r8 u8 v8 o8 g8
        unfold j_X12_fillsFits_251
        rw [h.r46, r58, ztn_nI (by omega), r8, u8]
        have others : ∀ M9 : zM, (∀ hh, hh ≠ i → M9 279 hh = M8 279 hh ∧ M9 280 hh = M8 280 hh) → M9 279 i = M8 279 i → M9 280 i = nI (if (aggF P (fun w => dig B w i) 100 w).2.2 < dig B w i then dig B w i else (aggF P (fun w => dig B w i) 100 w).2.2) → ∀ hh, hh < n → M9 279 hh = nI (aggF P (fun w => dig B w hh) 100 (if hh < i + 1 then w + 1 else w)).2.1 ∧ M9 280 hh = nI (aggF P (fun w => dig B w hh) 100 (if hh < i + 1 then w + 1 else w)).2.2 := by
          intro M9 o9 a9 b9 hh hc
          by_cases c : hh = i
          · subst c
            rw [if_pos (by omega), aI, a9, v8, b9]
            exact ⟨rfl, rfl⟩
          · obtain ⟨x1, x2⟩ := o9 hh c
            obtain ⟨y1, y2⟩ := o8 hh c
            rw [x1, x2, y1, y2]
            have := d7 hh hc
            by_cases c2 : hh < i
            · rw [if_pos c2] at this
              rw [if_pos (by omega)]
              exact this
            · rw [if_neg c2] at this
              rw [if_neg (by omega)]
              exact this
        refine zT_ck hz (zT_ck hz2 (zT_if (fun c => zT_some ⟨nI_1 _, ?_, g8⟩) (fun c => zT_ck hz (zT_ck hz2 (zT_lt (zT_some ⟨nI_1 _, ?_, g8.up (by omega)⟩))))))
        · rw [nI_leI (by omega) (by omega)] at c
          exact others M8 (fun _ _ => ⟨rfl, rfl⟩) rfl (by rw [u8, if_neg (by omega)])
        · rw [nI_leI (by omega) (by omega)] at c
          exact others (zup M8 280 i (nI (dig B w i))) (fun hh hc => ⟨zup_a (by omega), zup_k hc⟩) (zup_a (by omega)) (by rw [zup_same, if_pos (by omega)])
      unfold b_X12_fillsFits_208
      rw [h.r46, f40', r57, ztn_nI (by omega), row, u9]
      refine zT_if0 (nI_ge hi (by omega)) (zT_ck hz (zT_ck hz2 (zT_if (fun c => ?_) (fun c => zT_ck hz (zT_ck hz2 (zT_lt ?_))))))
      · rw [nI_leI (by omega) (by omega)] at c
        exact tail M7 row u10 (by rw [u9, if_neg (by omega)]) (fun _ _ => ⟨rfl, rfl⟩) g7
      · rw [nI_leI (by omega) (by omega)] at c
        exact tail _ (by rw [zup_a (by omega)]; exact row) (by rw [zup_a (by omega)]; exact u10) (by rw [zup_same, if_pos (by omega)]) (fun hh hc => ⟨zup_k hc, zup_a (by omega)⟩) (g7.up (by omega))
    · rintro ⟨y, M7⟩ ⟨rfl, d7, g7⟩
      simp only at d7 g7 ⊢
      have f40' : M7 271 (ztn (40 : Int32)) = nI n := by
        show M7 271 40 = nI n
        rw [g7 271 40 (by omega), e6]
        exact (h.gd.base (B := B) (k := w) (by omega) (by omega)).2.1
      unfold b_X12_fillsFits_208
      rw [h.r46, f40']
      refine zT_if1 (nI_le (Nat.le_refl _) (by omega)) (zT_some ⟨fun hh hc => ?_, g7⟩)
      have := d7 hh hc
      rw [if_pos hc] at this
      exact this
    · rintro M7 ⟨d7, g7⟩
      refine zT_some ⟨?_, nI_1 _, d7, fun j hj => ?_, g36.tr (g7.mo (fun b k e => by unfold zsr; omega)), ?_⟩
      · rw [agg1, if_pos hp]
        exact nI_1 _
      · dsimp only
        rw [g7 278 j (by omega), k6 278 j (by omega)]
        exact k3 j hj
      · dsimp only
        rw [← f6]
        unfold rowF
        rw [g7.row (a := 270) (fun k => by omega), g7.row (a := 271) (fun k => by omega)]
  · rintro ⟨y, z, M3⟩ ⟨rfl, rfl, d3, k3, g3, f3⟩
    simp only at d3 g3 ⊢
    unfold b_X12_fillsFits_94
    exact zT_if1 (nI_le (Nat.le_refl _) (by omega)) (zT_some ⟨rfl, d3, g3⟩)
  · rintro ⟨y, M3⟩ ⟨rfl, d3, g3⟩
    exact zT_some ⟨Or.inl ⟨hN, rfl, d3⟩, g3⟩
end TRY

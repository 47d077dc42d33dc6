/-! READ, on the class's side: the scan -/
def sfA : Nat → Nat → Prop := fun b k => (b = 6 ∧ (k = 4 ∨ k = 5)) ∨ b = 7 ∨ b = 8
def ltX (M : zM) (L : zL) (m : Nat) (pv : Int32) (l : List Nat) : Prop := (pv = 2 → (∀ x, x ∈ l → isL x) ∧ M 7 m = (if l.length ≤ 8 then 2 else 1) ∧ L 9 m = e32 (l.take 8)) ∧ (pv = 3 → (∀ x, x ∈ l → isD x) ∧ M 7 m = (if l.length ≤ 4 then 3 else 1) ∧ L 9 m = d10 (l.take 4))
def scI (B : Nat → Nat) (M0 : zM) (L0 : zL) (i : Nat) (v : Int32 × Int32 × zM × zL) : Prop := v.1 = (tokS B i).1 ∧ v.2.1 = nI i ∧ (tokS B i).2.length ≤ 401 ∧ v.2.2.1 6 4 = nI (tokS B i).2.length ∧ (∀ j, j < (tokS B i).2.length → tkX v.2.2.1 v.2.2.2 j ((tokS B i).2.getD j z0T)) ∧ (((tokS B i).1 = 2 ∨ (tokS B i).1 = 3) → ∃ a p l, (tokS B i).2 = a ++ [(p, l)] ∧ v.2.2.1 6 5 = nI l.length ∧ l ≠ [] ∧ l.length ≤ i ∧ v.2.2.1 8 a.length = nI p ∧ ltX v.2.2.1 v.2.2.2 a.length (tokS B i).1 l) ∧ zag sfA M0 v.2.2.1 ∧ ∀ b j, b ≠ 9 → v.2.2.2 b j = L0 b j
def scQ (B : Nat → Nat) (n : Nat) (M0 : zM) (L0 : zL) (e : zM × zL) : Prop := ∃ m, m ≤ 401 ∧ m ≤ (tokS B n).2.length ∧ (m = 401 ∨ m = (tokS B n).2.length) ∧ e.1 6 4 = nI m ∧ (∀ j, j < m → tkX e.1 e.2 j ((tokS B n).2.getD j z0T)) ∧ zag sfA M0 e.1 ∧ ∀ b j, b ≠ 9 → e.2 b j = L0 b j
theorem tkX.eq {M M1 : zM} {L L1 : zL} {j : Nat} {t : zTok} (h : tkX M L j t) (h7 : M1 7 j = M 7 j) (h8 : M1 8 j = M 8 j) (h9 : L1 9 j = L 9 j) : tkX M1 L1 j t := by
  unfold tkX at h ⊢
  rw [h7, h8, h9]
  exact h
theorem tkX_all {M M1 : zM} {L L1 : zL} {a : List zTok} {t : zTok} (h : ∀ j, j < a.length → tkX M L j (a.getD j z0T)) (he : ∀ j, j < a.length → M1 7 j = M 7 j ∧ M1 8 j = M 8 j ∧ L1 9 j = L 9 j) (ht : tkX M1 L1 a.length t) : ∀ j, j < (a ++ [t]).length → tkX M1 L1 j ((a ++ [t]).getD j z0T) := fun j hj => by
  rw [List.length_append, List.length_singleton] at hj
  by_cases e : j = a.length
  · subst e
    rw [gT_e]
    exact ht
  · have hj2 : j < a.length := by omega
    obtain ⟨e1, e2, e3⟩ := he j hj2
    rw [gT_l hj2]
    exact (h j hj2).eq e1 e2 e3
theorem n423 : ¬ ((4 : Int32) = 2 ∨ (4 : Int32) = 3) := by decide
section CLS
variable {R : zR} {M M1 : zM} {L L1 : zL} {B : Nat → Nat} {n i : Nat}
theorem X9_step (hp : zRp R) (hB : ∀ j, j < n → B j = zbyte (M 4 j)) (hn : n ≤ 2000) (hc : M 3 1 = nI n) (hi : i < n) {v : Int32 × Int32 × zM × zL} (h : scI B M L i v) : zT (b_X9_scan_9 R v.2.2.1 v.2.2.2 6 3 v.1 v.2.1) (Sum.elim (scI B M L (i + 1)) (fun e => scQ B n M L (Sum.elim (fun a => a) (fun a => a) e))) := by
  obtain ⟨v1, v2, M2, L2⟩ := v
  obtain ⟨rfl, rfl, h3, h4, h5, h6, h7, h8⟩ := h
  dsimp only at h4 h5 h6 h7 h8 ⊢
  have e31 : M2 3 1 = nI n := by rw [h7 3 1 (by unfold sfA; omega)]; exact hc
  have e4 : M2 4 i &&& 255 = nI (B i) := by rw [h7 4 i (by unfold sfA; omega), and255, hB i hi]
  have bl : B i < 256 := by rw [hB i hi]; exact zbyte_lt _
  obtain ⟨k2, k3, k4⟩ := kB_2 bl
  unfold b_X9_scan_9 f_X8_byteAt
  rw [e31, hp.1, ztn_nI (by omega), e4]
  refine zT_if0 (nI_ge hi (by omega)) (zT_bd (zT_if0 (nI_pos (by omega)) (zT_if0 (by rw [nI_lit 2000]; exact nI_ge (by omega) (by omega)) (zT_ck (zin_nI (by omega) (by omega)) (zT_some (zT_bd (zT_eq (X9_kindOf bl) ?_)))))))
  obtain ⟨ts, hts⟩ : ∃ ts, (tokS B i).2 = ts := ⟨_, rfl⟩
  obtain ⟨pv, hpv⟩ : ∃ pv, (tokS B i).1 = pv := ⟨_, rfl⟩
  rw [hts] at h3 h4 h5 h6
  rw [hpv] at h6 ⊢
  obtain ⟨x, hx⟩ : ∃ x, B i = x := ⟨_, rfl⟩
  rw [hx] at bl k2 k3 k4 ⊢
  have nx : tokS B (i + 1) = if kB x = 4 then (4, ts) else if kB x = pv ∧ (kB x = 2 ∨ kB x = 3) then (kB x, addL ts x) else (kB x, ts ++ [(i, [x])]) := by
    rw [← hx, ← hts, ← hpv]
    rfl
  -- a token begun
  have new : ¬ (kB x = pv ∧ (kB x = 2 ∨ kB x = 3)) → zT (j_X9_scan_53 R M2 L2 6 3 (nI i) (nI x) (kB x)) (Sum.elim (scI B M L (i + 1)) (fun e => scQ B n M L (Sum.elim (fun a => a) (fun a => a) e))) := fun hn2 => by
    unfold j_X9_scan_53 j_X9_scan_54
    refine zT_if1 rfl ?_
    by_cases c4 : kB x = 4
    · rw [if_pos c4] at nx
      unfold j_X9_scan_80
      refine zT_if1 c4 (zT_if0 (by rw [c4]; decide) (zT_if0 (by rw [c4]; decide) (zT_some ⟨by rw [nx]; exact c4, nI_1 i, ?_⟩)))
      rw [nx]
      exact ⟨h3, h4, h5, fun z => absurd z n423, h7, h8⟩
    rw [if_neg c4, if_neg hn2] at nx
    refine zT_if0 c4 (zT_bd3 (zT_w (X9_open hp h4 h3 (kB x) (nI i)) ?_))
    rintro ⟨r, M3, L3⟩ (⟨q1, q2, q3, q4⟩ | ⟨q1, q2, a4, a5, a7, a8, a9, ag, aL⟩)
    · dsimp only at q2 q3 q4 ⊢
      subst q3 q4
      refine zT_if1 q2 (zT_some ?_)
      have pre := tokS_pre (B := B) (ts := ts) (i := i + 1) ⟨[(i, [x])], by simp, by rw [nx]⟩ (n - (i + 1))
      rw [show i + 1 + (n - (i + 1)) = n by omega] at pre
      obtain ⟨r', hr1, hr2⟩ := pre
      refine ⟨401, Nat.le_refl _, by rw [hr2, List.length_append]; omega, Or.inl rfl, by rw [← q1]; exact h4, fun j hj => ?_, h7, h8⟩
      rw [hr2, gT_l (by omega)]
      exact h5 j (by omega)
    · dsimp only at q2 a4 a5 a7 a8 a9 ag aL ⊢
      refine zT_if0 (by rw [q2]; decide) ?_
      have g3 : zag sfA M M3 := h7.tr (ag.mo (fun b j q => by unfold sfA; omega))
      have l3 : ∀ b j, b ≠ 9 → L3 b j = L b j := fun b j hb => (aL b j (by omega)).trans (h8 b j hb)
      have old : ∀ j, j < ts.length → M3 7 j = M2 7 j ∧ M3 8 j = M2 8 j ∧ L3 9 j = L2 9 j := fun j hj => ⟨ag 7 j (by omega), ag 8 j (by omega), aL 9 j (by omega)⟩
      have len : (ts ++ [(i, [x])]).length = ts.length + 1 := by simp
      unfold j_X9_scan_80 j_X9_scan_92
      by_cases c2 : kB x = 2
      · have xl := k2.1 c2
        refine zT_if1 c2 ?_
        rw [c2]
        refine zT_bd2 (zT_w (X9_growL hp (l := []) a4 q1 a5 (by simp) (by rw [a7, c2]; rfl) a9) ?_)
        rintro ⟨M5, L5⟩ ⟨b5, b7, b9, bg, bL⟩
        dsimp only at b5 b7 b9 bg bL ⊢
        have all1 : ∀ y, y ∈ [x] → isL y := fun y hy => by rw [List.mem_singleton.1 hy]; exact xl
        have hT : tkX M5 L5 ts.length (i, [x]) := ⟨by rw [bg 8 _ (by omega)]; exact a8, Or.inr (Or.inl ⟨by simp, all1, b7, b9⟩)⟩
        refine zT_some ⟨by rw [nx]; exact c2.symm, nI_1 i, ?_⟩
        rw [nx]
        refine ⟨by rw [len]; omega, by rw [len]; dsimp only; rw [bg 6 4 (by omega)]; exact a4, tkX_all h5 (fun j hj => ?_) hT, fun _ => ⟨ts, i, [x], rfl, b5, by simp, by simp, by dsimp only; rw [bg 8 _ (by omega)]; exact a8, fun _ => ⟨all1, b7, b9⟩, fun z => absurd (c2.symm.trans z) (by decide)⟩, g3.tr (bg.mo (fun b j q => by unfold sfA; omega)), fun b j hb => (bL b j (by omega)).trans (l3 b j hb)⟩
        obtain ⟨o1, o2, o3⟩ := old j hj
        exact ⟨(bg 7 j (by omega)).trans o1, (bg 8 j (by omega)).trans o2, (bL 9 j (by omega)).trans o3⟩
      refine zT_if0 c2 ?_
      by_cases c3 : kB x = 3
      · have xl := k3.1 c3
        refine zT_if1 c3 ?_
        rw [c3]
        refine zT_bd2 (zT_w (X9_growD hp (l := []) a4 q1 a5 (by simp) (by rw [a7, c3]; rfl) a9) ?_)
        rintro ⟨M5, L5⟩ ⟨b5, b7, b9, bg, bL⟩
        dsimp only at b5 b7 b9 bg bL ⊢
        have all1 : ∀ y, y ∈ [x] → isD y := fun y hy => by rw [List.mem_singleton.1 hy]; exact xl
        have hT : tkX M5 L5 ts.length (i, [x]) := ⟨by rw [bg 8 _ (by omega)]; exact a8, Or.inr (Or.inr ⟨by simp, all1, b7, b9⟩)⟩
        refine zT_some ⟨by rw [nx]; exact c3.symm, nI_1 i, ?_⟩
        rw [nx]
        refine ⟨by rw [len]; omega, by rw [len]; dsimp only; rw [bg 6 4 (by omega)]; exact a4, tkX_all h5 (fun j hj => ?_) hT, fun _ => ⟨ts, i, [x], rfl, b5, by simp, by simp, by dsimp only; rw [bg 8 _ (by omega)]; exact a8, fun z => absurd (c3.symm.trans z) (by decide), fun _ => ⟨all1, b7, b9⟩⟩, g3.tr (bg.mo (fun b j q => by unfold sfA; omega)), fun b j hb => (bL b j (by omega)).trans (l3 b j hb)⟩
        obtain ⟨o1, o2, o3⟩ := old j hj
        exact ⟨(bg 7 j (by omega)).trans o1, (bg 8 j (by omega)).trans o2, (bL 9 j (by omega)).trans o3⟩
      · have hT : tkX M3 L3 ts.length (i, [x]) := ⟨a8, Or.inl ⟨x, rfl, fun z => c2 (k2.2 z), fun z => c3 (k3.2 z), a7⟩⟩
        refine zT_if0 c3 (zT_some ⟨by rw [nx], nI_1 i, ?_⟩)
        rw [nx]
        exact ⟨by rw [len]; omega, by rw [len]; exact a4, tkX_all h5 old hT, fun z => by rcases z with z | z; exact absurd z c2; exact absurd z c3, g3, l3⟩
  -- a token goes on
  have on : (kB x = pv ∧ (kB x = 2 ∨ kB x = 3)) → zT (j_X9_scan_49 R M2 L2 6 3 (nI i) (nI x) (kB x)) (Sum.elim (scI B M L (i + 1)) (fun e => scQ B n M L (Sum.elim (fun a => a) (fun a => a) e))) := fun hy => by
    obtain ⟨hy1, hy2⟩ := hy
    have n4 : ¬ kB x = 4 := by rcases hy2 with z | z <;> rw [z] <;> decide
    rw [if_neg n4, if_pos ⟨hy1, hy2⟩] at nx
    obtain ⟨a, p, l, e1, l5, l0, li, l8, lt⟩ := h6 (by rw [← hy1]; exact hy2)
    subst e1
    rw [addL_app] at nx
    have la : (a ++ [(p, l)]).length = a.length + 1 := by simp
    have la2 : (a ++ [(p, l ++ [x])]).length = a.length + 1 := by simp
    rw [la] at h3 h4
    have h5a : ∀ j, j < a.length → tkX M2 L2 j (a.getD j z0T) := fun j hj => by
      have := h5 j (by rw [la]; omega)
      rw [gT_l hj] at this
      exact this
    have ln : l ++ [x] ≠ [] := by simp
    have ll : (l ++ [x]).length ≤ i + 1 := by rw [List.length_append]; simp; omega
    unfold j_X9_scan_49 j_X9_scan_54 j_X9_scan_80 j_X9_scan_92
    refine zT_if0 (by decide) ?_
    rcases hy2 with c2 | c3
    · obtain ⟨t1, t2, t3⟩ := lt.1 (by rw [← hy1]; exact c2)
      refine zT_if1 c2 ?_
      rw [c2]
      refine zT_bd2 (zT_w (X9_growL hp (l := l) (x := x) h4 (by omega) l5 (by omega) t2 t3) ?_)
      rintro ⟨M5, L5⟩ ⟨b5, b7, b9, bg, bL⟩
      dsimp only at b5 b7 b9 bg bL ⊢
      have all1 : ∀ y, y ∈ l ++ [x] → isL y := fun y hy => by
        rcases List.mem_append.1 hy with z | z
        · exact t1 y z
        · rw [List.mem_singleton.1 z]; exact k2.1 c2
      have e8 : M5 8 a.length = nI p := by rw [bg 8 _ (by omega)]; exact l8
      have hT : tkX M5 L5 a.length (p, l ++ [x]) := ⟨e8, Or.inr (Or.inl ⟨ln, all1, b7, b9⟩)⟩
      refine zT_some ⟨by rw [nx]; exact c2.symm, nI_1 i, ?_⟩
      rw [nx]
      exact ⟨by rw [la2]; omega, by rw [la2]; dsimp only; rw [bg 6 4 (by omega)]; exact h4, tkX_all h5a (fun j hj => ⟨bg 7 j (by omega), bg 8 j (by omega), bL 9 j (by omega)⟩) hT, fun _ => ⟨a, p, l ++ [x], rfl, b5, ln, ll, e8, fun _ => ⟨all1, b7, b9⟩, fun z => absurd (c2.symm.trans z) (by decide)⟩, h7.tr (bg.mo (fun b j q => by unfold sfA; omega)), fun b j hb => (bL b j (by omega)).trans (h8 b j hb)⟩
    · obtain ⟨t1, t2, t3⟩ := lt.2 (by rw [← hy1]; exact c3)
      refine zT_if0 (by rw [c3]; decide) (zT_if1 c3 ?_)
      rw [c3]
      refine zT_bd2 (zT_w (X9_growD hp (l := l) (x := x) h4 (by omega) l5 (by omega) t2 t3) ?_)
      rintro ⟨M5, L5⟩ ⟨b5, b7, b9, bg, bL⟩
      dsimp only at b5 b7 b9 bg bL ⊢
      have all1 : ∀ y, y ∈ l ++ [x] → isD y := fun y hy => by
        rcases List.mem_append.1 hy with z | z
        · exact t1 y z
        · rw [List.mem_singleton.1 z]; exact k3.1 c3
      have e8 : M5 8 a.length = nI p := by rw [bg 8 _ (by omega)]; exact l8
      have hT : tkX M5 L5 a.length (p, l ++ [x]) := ⟨e8, Or.inr (Or.inr ⟨ln, all1, b7, b9⟩)⟩
      refine zT_some ⟨by rw [nx]; exact c3.symm, nI_1 i, ?_⟩
      rw [nx]
      exact ⟨by rw [la2]; omega, by rw [la2]; dsimp only; rw [bg 6 4 (by omega)]; exact h4, tkX_all h5a (fun j hj => ⟨bg 7 j (by omega), bg 8 j (by omega), bL 9 j (by omega)⟩) hT, fun _ => ⟨a, p, l ++ [x], rfl, b5, ln, ll, e8, fun z => absurd (c3.symm.trans z) (by decide), fun _ => ⟨all1, b7, b9⟩⟩, h7.tr (bg.mo (fun b j q => by unfold sfA; omega)), fun b j hb => (bL b j (by omega)).trans (h8 b j hb)⟩
  by_cases cp : kB x = pv
  · refine zT_if1 cp ?_
    by_cases c2 : kB x = 2
    · exact zT_if1 c2 (on ⟨cp, Or.inl c2⟩)
    · refine zT_if0 c2 ?_
      by_cases c3 : kB x = 3
      · exact zT_if1 c3 (on ⟨cp, Or.inr c3⟩)
      · exact zT_if0 c3 (new (fun z => by rcases z.2 with q | q; exact c2 q; exact c3 q))
  · exact zT_if0 cp (new (fun z => cp z.1))
theorem X9_loop (hp : zRp R) (hB : ∀ j, j < n → B j = zbyte (M 4 j)) (hn : n ≤ 2000) (hc : M 3 1 = nI n) (h4 : M 6 4 = 0) : zT (zloop zN (fun v => b_X9_scan_9 R v.2.2.1 v.2.2.2 6 3 v.1 v.2.1) ((4 : Int32), (0 : Int32), M, L)) (fun e => scQ B n M L (Sum.elim (fun a => a) (fun a => a) e)) := by
  refine zT_for n (scI B M L) ⟨rfl, rfl, Nat.zero_le _, h4, fun j hj => absurd hj (by show ¬ j < 0; omega), fun z => absurd z n423, zag.rf, fun _ _ _ => rfl⟩ (by omega) (fun i v hi h => X9_step hp hB hn hc hi h) ?_
  rintro ⟨v1, v2, M2, L2⟩ ⟨rfl, rfl, h3, h4, h5, h6, h7, h8⟩
  dsimp only at h4 h5 h6 h7 h8 ⊢
  unfold b_X9_scan_9
  exact zT_if1 (by rw [h7 3 1 (by unfold sfA; omega), hc]; exact Int32.le_refl _) (zT_some ⟨_, h3, Nat.le_refl _, Or.inr rfl, h4, h5, h7, h8⟩)
end CLS

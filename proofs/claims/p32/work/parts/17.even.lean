/-! AN EVENING, on the class's side -/
def clA (r q : Nat) : Nat → Nat → Prop := fun b _ => (r ≤ b ∧ b < r + 5) ∨ b = q + 4 ∨ b = q + 8 ∨ b = q + 10 ∨ b = q + 11
theorem zCr.cl {R : zR} {M M1 : zM} {q r : Nat} {ru : zRu} (h : zCr R M q ru) (hq : r + 5 ≤ q) (hg : zag (clA r q) M M1) : zCr R M1 q ru := h.eq (fun b k q1 q2 q3 => hg b k (by unfold clA; omega))
theorem clA.blk {M M1 : zM} {r q : Nat} (h : zag (zblk r) M M1) : zag (clA r q) M M1 := h.mo (fun a k e => Or.inl e)
theorem X7_val {R : zR} {M M1 : zM} {q n h k a : Nat} {w : Nat → Int32} {ru : zRu} (hc : zCr R M q ru) (hok : zOk ru) (ha : (k = 0 ∧ a = q + 1) ∨ (k = 1 ∧ a = q + 5)) (hg : zag (lkA q) M M1) (hv : ∀ j, j < 7 → j ≠ 5 ∨ M a 4 ≠ 0 → M1 (q + 10) j = vF n (ruS ru) (ruD ru) w h j) : zT (f_X3_value R M1 a (q + 10)) (fun p => p.1 = evP (vF n (ruS ru) (ruD ru) w h) (ruK ru k) ∧ zag (fun b _ => b = q + 4 ∨ b = q + 8) M1 p.2) := by
  obtain ⟨_, _, _, _, _, _, _, _, _, l0, l1, f0, f1⟩ := id hc
  obtain ⟨_, _, d0, d1⟩ := hok
  have lw : zLw R M a (fP (ruK ru k)) := by
    rcases ha with ⟨rfl, rfl⟩ | ⟨rfl, rfl⟩
    · exact l0
    · exact l1
  have dp : dP (ruK ru k) := by
    rcases ha with ⟨rfl, rfl⟩ | ⟨rfl, rfl⟩
    · exact d0
    · exact d1
  have nl : M a 4 = 0 → noLot (ruK ru k) := by
    rcases ha with ⟨rfl, rfl⟩ | ⟨rfl, rfl⟩
    · exact f0
    · exact f1
  have lw1 : zLw R M1 a (fP (ruK ru k)) := lw.eq (fun b j q1 q2 => hg b j (by unfold lkA; omega))
  refine zT_w (X3_value lw1 (q := q + 10) (by omega)) ?_
  rintro ⟨x, M2⟩ ⟨e1, g1⟩
  refine ⟨?_, g1.mo (fun b j e => by omega)⟩
  rw [e1]
  show evG (M1 (q + 10)) (fP (ruK ru k)) [] = _
  rw [evG_fP _ dp]
  refine evP_congr _ fun b hb i hi h1 => ?_
  obtain ⟨q1, q2⟩ := dB_var (dp b hb) i hi h1
  have q5 : M a 4 = 0 → i.2 ≠ 5 := fun z => nl z b hb i hi h1
  obtain ⟨j, hj, e⟩ := nn_lt (n := 7) q1 q2 (by omega)
  rw [e] at q5 ⊢
  rw [ztn_nI (by omega)]
  refine hv j hj ?_
  by_cases z : M a 4 = 0
  · exact Or.inl (fun e5 => q5 z (by rw [e5]; rfl))
  · exact Or.inr z
theorem X7_wanted {R : zR} {M : zM} {q r n h : Nat} {w : Nat → Int32} {ru : zRu} (hc : zCr R M q ru) (hok : zOk ru) (hR : zrg R r) (hw : RW M r n w) (hq : r + 5 ≤ q) (hh : h < n) : zT (f_X7_wanted R M q r (nI h)) (fun p => p.1 = wantF n ru w h ∧ zag (fun b _ => b = q + 4 ∨ b = q + 8 ∨ b = q + 10) M p.2) := by
  have r0 : R q 0 = q + 1 := hc.1
  have r3 : R q 3 = q + 10 := hc.2.2.1
  unfold f_X7_wanted
  refine zT_bd (zT_eq (hz_yes hw hh) (zT_if0 (by decide) (zT_bd ?_)))
  rw [r0, r3]
  refine zT_w (X7_look hc hR hw hq hh (M (q + 1) 4)) ?_
  rintro M1 ⟨g1, v1⟩
  refine zT_bd2 (zT_w (X7_val hc hok (k := 0) (Or.inl ⟨rfl, rfl⟩) g1 v1) ?_)
  rintro ⟨x, M2⟩ ⟨e2, g2⟩
  have s2 : M2 (q + 10) (ztn (2 : Int32)) = shF w h := (g2 (q + 10) 2 (by omega)).trans (v1 2 (by omega) (by omega))
  simp only at e2 g2 ⊢
  rw [s2, e2]
  exact zT_some ⟨rfl, (g1.mo (fun b k e => Or.inr (Or.inr e))).tr (g2.mo (fun b k e => by omega))⟩
theorem X7_earn {R : zR} {M : zM} {q r n : Nat} {w : Nat → Int32} {ru : zRu} (hc : zCr R M q ru) (hok : zOk ru) (hR : zrg R r) (hw : RW M r n w) (hq : r + 5 ≤ q) : zT (f_X7_earn R M q r) (fun M1 => RW M1 r n (earnS n ru w n) ∧ zag (clA r q) M M1) := by
  have hn := hw.1
  have r1 : R q 1 = q + 5 := hc.2.1
  have r3 : R q 3 = q + 10 := hc.2.2.1
  unfold f_X7_earn
  refine zT_bd ?_
  refine zT_for n (fun k v => v.1 = nI k ∧ RW v.2 r n (earnS n ru w k) ∧ zag (clA r q) M v.2) ⟨rfl, hw, zag.rf⟩ (by omega) ?_ ?_
  · rintro k ⟨x, M1⟩ hk ⟨rfl, hw1, hg1⟩
    simp only at hw1 hg1 ⊢
    unfold b_X7_earn_2
    have hc1 := hc.cl hq hg1
    rw [hw1.2.1, r1, r3]
    refine zT_if0 (nI_ge (by omega) (by omega)) (zT_bd (zT_w (X7_look hc1 hR hw1 hq hk (M1 (q + 5) 4)) ?_))
    rintro M2 ⟨g2, v2⟩
    refine zT_bd2 (zT_w (X7_val hc1 hok (k := 1) (Or.inr ⟨rfl, rfl⟩) g2 v2) ?_)
    rintro ⟨y, M3⟩ ⟨e3, g3⟩
    simp only at e3 g3 ⊢
    rw [e3]
    have hw3 : RW M3 r n (earnS n ru w k) := (hw1.out g2 (fun b k e => by unfold lkA at e; omega)).out g3 (fun b k e => by omega)
    refine zT_bd (zT_w (X6_earn hR hw3 hk _) ?_)
    rintro M4 ⟨w4, g4⟩
    refine zT_some ⟨nI_1 k, w4, ?_⟩
    exact ((hg1.tr (g2.mo (fun b k e => by unfold lkA at e; unfold clA; omega))).tr (g3.mo (fun b k e => by unfold clA; omega))).tr (clA.blk g4)
  · rintro ⟨x, M1⟩ ⟨rfl, hw1, hg1⟩
    simp only at hw1 hg1 ⊢
    unfold b_X7_earn_2
    rw [hw1.2.1]
    exact zT_if1 (nI_le (Nat.le_refl _) (by omega)) (zT_some (zT_some ⟨hw1, hg1⟩))
theorem X7_payAtOnce {R : zR} {M : zM} {q r n : Nat} {w : Nat → Int32} {ru : zRu} (hc : zCr R M q ru) (hok : zOk ru) (hR : zrg R r) (hw : RW M r n w) (hq : r + 5 ≤ q) : zT (f_X7_payAtOnce R M q r) (fun M1 => RW M1 r n (onceS n ru w n) ∧ zag (clA r q) M M1) := by
  have hn := hw.1
  have r4 : R q 4 = q + 11 := hc.2.2.2.1
  unfold f_X7_payAtOnce
  refine zT_bd ?_
  refine zT_for n (fun k v => v.1 = nI k ∧ RW v.2 r n w ∧ zag (clA r q) M v.2 ∧ ∀ j, j < k → v.2 (q + 11) j = wantF n ru w j) ⟨rfl, hw, zag.rf, fun j hj => absurd hj (by omega)⟩ (by omega) ?_ ?_
  · rintro k ⟨x, M1⟩ hk ⟨rfl, hw1, hg1, hd⟩
    simp only at hw1 hg1 hd ⊢
    unfold b_X7_payAtOnce_2
    have hc1 := hc.cl hq hg1
    rw [hw1.2.1]
    refine zT_if0 (nI_ge (by omega) (by omega)) (zT_if0 (by rw [nI_lit 10]; exact nI_ge (by omega) (by omega)) (zT_bd2 (zT_w (X7_wanted hc1 hok hR hw1 hq hk) ?_)))
    rintro ⟨y, M2⟩ ⟨e2, g2⟩
    simp only at e2 g2 ⊢
    refine zT_ck (zin_nI (by omega) (by omega)) (zT_lt (zT_some ?_))
    rw [ztn_nI (by omega), r4, e2]
    refine ⟨nI_1 k, (hw1.out g2 (fun b k e => by omega)).out (A := fun b _ => b = q + 11) (zag.rf.up rfl) (fun b k e => by omega), (hg1.tr (g2.mo (fun b k e => by unfold clA; omega))).up (Or.inr (Or.inr (Or.inr (Or.inr rfl)))), fun j hj => ?_⟩
    by_cases e : j = k
    · subst e
      exact zup_same
    · show zup M2 (q + 11) k _ (q + 11) j = _
      rw [zup_k e, g2 _ _ (by omega)]
      exact hd j (by omega)
  · rintro ⟨x, M1⟩ ⟨rfl, hw1, hg1, hd⟩
    simp only at hw1 hg1 hd ⊢
    unfold b_X7_payAtOnce_2
    rw [hw1.2.1]
    refine zT_if1 (nI_le (Nat.le_refl _) (by omega)) (zT_some (zT_bd ?_))
    refine zT_for n (fun k v => v.1 = nI k ∧ RW v.2 r n (onceS n ru w k) ∧ zag (zblk r) M1 v.2) ⟨rfl, hw1, zag.rf⟩ (by omega) ?_ ?_
    · rintro k ⟨x, M2⟩ hk ⟨rfl, hw2, hg2⟩
      simp only at hw2 hg2 ⊢
      unfold b_X7_payAtOnce_39
      rw [hw2.2.1, r4]
      refine zT_if0 (nI_ge (by omega) (by omega)) (zT_if0 (by rw [nI_lit 10]; exact nI_ge (by omega) (by omega)) (zT_ck (zin_nI (by omega) (by omega)) (zT_bd ?_)))
      rw [ztn_nI (by omega), hg2 (q + 11) k (by unfold zblk; omega), hd k hk]
      refine zT_w (X6_pay hR hw2 hk _) ?_
      rintro M3 ⟨w3, g3⟩
      exact zT_some ⟨nI_1 k, w3, hg2.tr g3⟩
    · rintro ⟨x, M2⟩ ⟨rfl, hw2, hg2⟩
      simp only at hw2 hg2 ⊢
      unfold b_X7_payAtOnce_39
      rw [hw2.2.1]
      exact zT_if1 (nI_le (Nat.le_refl _) (by omega)) (zT_some (zT_some ⟨hw2, hg1.tr (clA.blk hg2)⟩))
theorem X7_payByTurns {R : zR} {M : zM} {q r n s : Nat} {w : Nat → Int32} {ru : zRu} (hc : zCr R M q ru) (hok : zOk ru) (hR : zrg R r) (hw : RW M r n w) (hq : r + 5 ≤ q) (hs : s < n ∨ s = 0) : zT (f_X7_payByTurns R M q r (nI s)) (fun M1 => RW M1 r n (turnsS n ru s w n) ∧ zag (clA r q) M M1) := by
  have hn := hw.1
  unfold f_X7_payByTurns
  refine zT_bd ?_
  have step : ∀ (k : Nat) (M1 : zM), k < n → RW M1 r n (turnsS n ru s w k) → zag (clA r q) M M1 → ∀ (h : Nat) (T : zM → Prop), h < n → (s + k) % n = h → (∀ M2, RW M2 r n (turnsS n ru s w (k + 1)) → zag (clA r q) M M2 → T M2) → zT (zbd2 (f_X7_wanted R M1 q r (nI h)) fun r2 M3 => zbd (f_X6_pay R M3 r (nI h) r2) fun M5 => some M5) T := fun k M1 hk hw1 hg1 h T hh eh ht => by
    have hc1 := hc.cl hq hg1
    refine zT_bd2 (zT_w (X7_wanted hc1 hok hR hw1 hq hh) ?_)
    rintro ⟨y, M2⟩ ⟨e2, g2⟩
    simp only at e2 g2 ⊢
    rw [e2]
    refine zT_bd (zT_w (X6_pay hR (hw1.out g2 (fun b k e => by omega)) hh _) ?_)
    rintro M3 ⟨w3, g3⟩
    refine zT_some (ht M3 ?_ ((hg1.tr (g2.mo (fun b k e => by unfold clA; omega))).tr (clA.blk g3)))
    unfold turnsS
    rw [eh]
    exact w3
  refine zT_for (n - s) (fun k v => v.1 = nI (s + k) ∧ RW v.2 r n (turnsS n ru s w k) ∧ zag (clA r q) M v.2) ⟨rfl, hw, zag.rf⟩ (by omega) ?_ ?_
  · rintro k ⟨x, M1⟩ hk ⟨rfl, hw1, hg1⟩
    simp only at hw1 hg1 ⊢
    unfold b_X7_payByTurns_2
    rw [hw1.2.1]
    refine zT_if0 (nI_ge (by omega) (by omega)) ?_
    obtain ⟨a, ea, M2, rfl, ⟨t1, t2⟩⟩ : ∃ a, (zbd2 (f_X7_wanted R M1 q r (nI (s + k))) fun r2 M3 => zbd (f_X6_pay R M3 r (nI (s + k)) r2) fun M5 => some M5) = some a ∧ ∃ M2, M2 = a ∧ RW M2 r n (turnsS n ru s w (k + 1)) ∧ zag (clA r q) M M2 := by
      obtain ⟨a, ea, qa⟩ := step k M1 (by omega) hw1 hg1 (s + k) (fun M2 => RW M2 r n (turnsS n ru s w (k + 1)) ∧ zag (clA r q) M M2) (by omega) (Nat.mod_eq_of_lt (by omega)) (fun M2 a b => ⟨a, b⟩)
      exact ⟨a, ea, a, rfl, qa⟩
    have ea2 : (zbd2 (f_X7_wanted R M1 q r (nI (s + k))) fun r2 M3 => zbd (f_X6_pay R M3 r (nI (s + k)) r2) fun M5 => (some (.inl (nI (s + k) + 1, M5)) : Option ((Int32 × zM) ⊕ zM))) = some (.inl (nI (s + k) + 1, M2)) := by
      revert ea
      cases f_X7_wanted R M1 q r (nI (s + k)) with
      | none => intro z; exact absurd z (by simp [zbd2])
      | some p =>
        simp only [zbd2]
        cases f_X6_pay R p.2 r (nI (s + k)) p.1 with
        | none => intro z; exact absurd z (by simp [zbd])
        | some M3 => simp [zbd]
    exact zT_eq ea2 ⟨nI_1 _, t1, t2⟩
  · rintro ⟨x, M1⟩ ⟨rfl, hw1, hg1⟩
    simp only at hw1 hg1 ⊢
    unfold b_X7_payByTurns_2
    rw [hw1.2.1]
    refine zT_if1 (nI_le (by omega) (by omega)) (zT_some (zT_bd ?_))
    refine zT_for s (fun k v => v.1 = nI k ∧ RW v.2 r n (turnsS n ru s w (n - s + k)) ∧ zag (clA r q) M v.2) ⟨rfl, hw1, hg1⟩ (by omega) ?_ ?_
    · rintro k ⟨x, M1⟩ hk ⟨rfl, hw1, hg1⟩
      simp only at hw1 hg1 ⊢
      unfold b_X7_payByTurns_29
      refine zT_if0 (nI_ge (by omega) (by omega)) ?_
      obtain ⟨a, ea, M2, rfl, ⟨t1, t2⟩⟩ : ∃ a, (zbd2 (f_X7_wanted R M1 q r (nI k)) fun r2 M3 => zbd (f_X6_pay R M3 r (nI k) r2) fun M5 => some M5) = some a ∧ ∃ M2, M2 = a ∧ RW M2 r n (turnsS n ru s w (n - s + k + 1)) ∧ zag (clA r q) M M2 := by
        obtain ⟨a, ea, qa⟩ := step (n - s + k) M1 (by omega) hw1 hg1 k (fun M2 => RW M2 r n (turnsS n ru s w (n - s + k + 1)) ∧ zag (clA r q) M M2) (by omega) (by rw [show s + (n - s + k) = k + n by omega, Nat.add_mod_right]; exact Nat.mod_eq_of_lt (by omega)) (fun M2 a b => ⟨a, b⟩)
        exact ⟨a, ea, a, rfl, qa⟩
      have ea2 : (zbd2 (f_X7_wanted R M1 q r (nI k)) fun r2 M3 => zbd (f_X6_pay R M3 r (nI k) r2) fun M5 => (some (.inl (nI k + 1, M5)) : Option ((Int32 × zM) ⊕ zM))) = some (.inl (nI k + 1, M2)) := by
        revert ea
        cases f_X7_wanted R M1 q r (nI k) with
        | none => intro z; exact absurd z (by simp [zbd2])
        | some p =>
          simp only [zbd2]
          cases f_X6_pay R p.2 r (nI k) p.1 with
          | none => intro z; exact absurd z (by simp [zbd])
          | some M3 => simp [zbd]
      exact zT_eq ea2 ⟨nI_1 _, t1, t2⟩
    · rintro ⟨x, M1⟩ ⟨rfl, hw1, hg1⟩
      simp only at hw1 hg1 ⊢
      unfold b_X7_payByTurns_29
      refine zT_if1 (nI_le (Nat.le_refl _) (by omega)) (zT_some (zT_some ⟨?_, hg1⟩))
      rw [show n - s + s = n by omega] at hw1
      exact hw1
theorem X7_evening {R : zR} {M : zM} {q r n s : Nat} {w : Nat → Int32} {ru : zRu} (hc : zCr R M q ru) (hok : zOk ru) (hR : zrg R r) (hw : RW M r n w) (hq : r + 5 ≤ q) (hs : w 43 = nI s) (hs2 : s < 2147483648) {how : Int32} (hh : how = 0 ∨ how = 1 ∨ how = 2) : zT (f_X7_evening R M q r how) (fun M1 => RW M1 r n (eveF n how ru w) ∧ zag (clA r q) M M1) := by
  have hn := hw.1
  unfold f_X7_evening
  refine zT_bd (zT_w (X7_earn hc hok hR hw hq) ?_)
  rintro M1 ⟨w1, g1⟩
  have hc1 := hc.cl hq g1
  have m7 : M1 q 7 = ruT ru := hc1.2.2.2.2.2.1
  have fin : ∀ (M2 : zM) (v : Nat → Int32), RW M2 r n v → zag (clA r q) M M2 → v 43 = w 43 → zT (j_X7_evening_26 R M2 q r how) (fun M3 => RW M3 r n (endF n how (ruE ru) v) ∧ zag (clA r q) M M3) := fun M2 v w2 g2 e43 => by
    unfold j_X7_evening_26
    have hc2 := hc.cl hq g2
    have w3 := w2.eve (v 42 + 1)
    have e6 : M2 r 6 = v 42 := w2.2.2.2.2.1
    refine zT_lt ?_
    rw [e6]
    have hg3 : zag (clA r q) M (zup M2 r 6 (v 42 + 1)) := g2.up (Or.inl ⟨Nat.le_refl _, by omega⟩)
    generalize zup M2 r 6 (v 42 + 1) = M3 at w3 hg3 ⊢
    have hc3 := hc.cl hq hg3
    have m9 : M3 q 9 = ruE ru := hc3.2.2.2.2.2.2.2.1
    have m6 : M3 r 6 = upd v 42 (v 42 + 1) 42 := w3.2.2.2.2.1
    have hpos : 0 < ruE ru := hok.2.1
    rw [m9, m6]
    refine zT_if0 (fun z => Int32.lt_irrefl (Int32.lt_of_lt_of_le hpos z)) (zT_ck ?_ ?_)
    · unfold znz
      have : ruE ru ≠ 0 := fun z => by rw [z] at hpos; exact Int32.lt_irrefl hpos
      simpa using this
    · unfold endF
      refine zT_if (fun z => ?_) (fun z => ?_)
      · rw [if_pos z]
        refine zT_bd (zT_w (X6_sharePot hR w3 (s := s) (by rw [upd_n (by omega), e43, hs]) hs2 hh) ?_)
        rintro M4 ⟨w4, g4⟩
        exact zT_some ⟨w4, hg3.tr (clA.blk g4)⟩
      · rw [if_neg z]
        exact zT_some ⟨w3, hg3⟩
  unfold eveF payAllF
  have k43 : ∀ k, k ≤ n → earnS n ru w k 43 = w 43 := by
    intro k
    induction k with
    | zero => intro _; rfl
    | succ k ih =>
      intro hk
      unfold earnS
      rw [upd_n (by omega)]
      exact ih (by omega)
  refine zT_if (fun z => zT_bd ?_) (fun z => zT_bd ?_)
  · rw [m7] at z
    rw [if_pos z]
    refine zT_w (X7_payAtOnce hc1 hok hR w1 hq) ?_
    rintro M2 ⟨w2, g2⟩
    refine fin M2 _ w2 (g1.tr g2) ?_
    rw [← k43 n (Nat.le_refl _)]
    generalize earnS n ru w n = v
    have : ∀ k, k ≤ n → onceS n ru v k 43 = v 43 := by
      intro k
      induction k with
      | zero => intro _; rfl
      | succ k ih =>
        intro hk
        unfold onceS
        rw [payF_n (by omega) (by omega) (by omega) (by omega)]
        exact ih (by omega)
    exact this n (Nat.le_refl _)
  · rw [m7] at z
    rw [if_neg z]
    refine zT_w (X7_payByTurns (s := 0) hc1 hok hR w1 hq (Or.inr rfl)) ?_
    rintro M2 ⟨w2, g2⟩
    refine fin M2 _ w2 (g1.tr g2) ?_
    rw [← k43 n (Nat.le_refl _)]
    generalize earnS n ru w n = v
    have : ∀ k, k ≤ n → turnsS n ru 0 v k 43 = v 43 := by
      intro k
      induction k with
      | zero => intro _; rfl
      | succ k ih =>
        intro hk
        unfold turnsS
        have hm : (0 + k) % n < n := Nat.mod_lt _ (by omega)
        rw [payF_n (by omega) (by omega) (by omega) (by omega)]
        exact ih (by omega)
    exact this n (Nat.le_refl _)

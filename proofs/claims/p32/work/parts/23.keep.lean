/-! HELD -/
def zXR (R : zR) : Prop := R 2 0 = 3 ∧ R 2 1 = 5 ∧ R 2 2 = 13 ∧ R 2 3 = 18 ∧ R 2 4 = 187 ∧ R 2 5 = 194 ∧ R 2 6 = 200 ∧ R 2 7 = 207
def zSl (M : zM) (T S : Nat) : Prop := ∀ s, s < 3 → (M 21 s = 0 ∧ M 281 s = 0) ∨ (M 21 s = 1 ∧ M 281 s = 1 ∧ ∃ n, RW M (172 + 5 * s) n (fun k => M 282 (60 * s + k)) ∧ zGd n T S (fun k => M 282 (60 * s + k)))
theorem zSl.mo {M : zM} {T S T1 S1 : Nat} (h : zSl M T S) (hT : T ≤ T1) (hS : S ≤ S1) : zSl M T1 S1 := fun s hs => by
  rcases h s hs with q | ⟨q1, q2, n, a, b⟩
  · exact Or.inl q
  · exact Or.inr ⟨q1, q2, n, a, b.mo hT hS⟩
theorem zSl.eq {M M1 : zM} {T S : Nat} (h : zSl M T S) (e1 : ∀ k, M1 21 k = M 21 k) (e2 : ∀ k, M1 281 k = M 281 k) (e3 : ∀ k, M1 282 k = M 282 k) (e4 : ∀ a k, 172 ≤ a → a < 187 → M1 a k = M a k) : zSl M1 T S := fun s hs => by
  rw [e1, e2]
  rcases h s hs with q | ⟨q1, q2, n, a, b⟩
  · exact Or.inl q
  · have row : eq60 (fun k => M1 282 (60 * s + k)) (fun k => M 282 (60 * s + k)) := fun k _ => e3 _
    exact Or.inr ⟨q1, q2, n, (a.cells (fun a k w1 w2 => e4 a k (by omega) (by omega))).to60 row, b.to60 row⟩
theorem X12_in3 {x : Int32} : (∃ s, s < 3 ∧ x = nI s ∧ f_X12_in x 0 2 = some 1) ∨ ((x < 0 ∨ nI 3 ≤ x) ∧ f_X12_in x 0 2 = some 0) := by
  unfold f_X12_in
  rcases nI_cases x 3 (by omega) with ⟨s, hs, rfl⟩ | hx
  · refine Or.inl ⟨s, hs, rfl, ?_⟩
    rw [if_neg (nI_pos (by omega)), nI_lit 2, if_neg (nI_nlt (by omega) (by omega))]
  · refine Or.inr ⟨hx, ?_⟩
    by_cases h0 : x < 0
    · rw [if_pos h0]
    · rw [if_neg h0, if_pos (Int32.lt_of_lt_of_le (by decide) (hx.resolve_left h0))]
def hoA : Nat → Nat → Prop := fun a _ => a = 21 ∨ (172 ≤ a ∧ a < 187) ∨ a = 281 ∨ a = 282
theorem zHold {R : zR} {M : zM} (hR : zMd R) (hK : zKR R) (hX : zXR R) {T S n : Nat} (h : zSl M T S) (hw : RW M 13 n (M 270)) (hg : zGd n T S (M 270)) (x : Int32) : zT (f_X11_hold R M 2 x) (fun p => zT (f_X12_hold R p.2 242 x) (fun p1 => p1.1 = p.1 ∧ zSl p1.2 T S ∧ zag hoA M p1.2)) := by
  obtain ⟨k0, k1, k2, k3, k4, k5⟩ := hK
  obtain ⟨x0, x1, x2, x3, _⟩ := hX
  have r45 : R 242 45 = 270 := hR.at rfl (by decide)
  have r59 : R 242 59 = 281 := hR.at rfl (by decide)
  have r60 : R 242 60 = 282 := hR.at rfl (by decide)
  unfold f_X11_hold f_X2_holdIn f_X12_hold
  rw [x2, x3, k1, k2, r59, nI_lit 3]
  rcases X12_in3 (x := x) with ⟨s, hs, rfl, ei⟩ | ⟨hx, ei⟩
  · rw [ei]
    have hz := zin_nI hs (by omega)
    refine zT_bd2 (zT_if0 (nI_pos (by omega)) (zT_if0 (nI_ge hs (by omega)) (zT_ck hz (zT_ck hz (zT_bd ?_)))))
    rw [ztn_nI (by omega), (k4 s hs).1]
    refine zT_w (X6_copy (k4 s hs).2 k5 hw (by omega)) ?_
    rintro M1 ⟨w1, g1⟩
    refine zT_ck hz (zT_lt (zT_some (zT_ck (show zbool (1 : Int32) = true by decide) (zT_some ?_))))
    simp only
    refine zT_bd (zT_some (zT_if0 (by decide) (zT_ck hz (zT_lt (zT_bd ?_)))))
    have g2 : zag hoA M (zup M1 21 s 1) := (g1.mo (fun a k q => by unfold zblk at q; unfold hoA; omega)).up (Or.inl rfl)
    have w2 : RW (zup M1 21 s 1) (172 + 5 * s) n (M 270) := w1.cells (fun a k q1 q2 => zup_a (by omega))
    generalize hM2 : zup M1 21 s 1 = M2 at g2 w2
    refine zT_w (zCopy (A := 282) (B := 270) (f := 60 * s) (g := 0) (c := 60) (by omega) ?_ ?_ (fun e => absurd e (by decide))) ?_
    · intro k M3 hk _ _
      show b_X12_hold_20 R M3 242 (nI s) (nI k) = _
      unfold b_X12_hold_20
      have ix : (60 : Int32) * nI s + nI k = nI (60 * s + k) := by rw [nI_lit 60, pk_mul, nI_add]
      rw [r45, r60, ix, nI_lit 60, if_neg (nI_ge hk (by omega)), ztn_nI (by omega), ztn_nI (by omega), Nat.zero_add]
      unfold zck
      rw [if_pos (zin_nI hk (by omega)), if_pos (zin_nI (by omega) (by omega))]
      rfl
    · intro M3 _
      show b_X12_hold_20 R M3 242 (nI s) (nI 60) = _
      unfold b_X12_hold_20
      rw [if_pos (by decide)]
    · rintro M3 ⟨e3, g3⟩
      refine zT_some ⟨rfl, ?_, (g2.up (Or.inr (Or.inr (Or.inl rfl)))).tr (g3.mo (fun a k q => Or.inr (Or.inr (Or.inr q))))⟩
      show zSl M3 T S
      have o21 : ∀ t, M3 21 t = if t = s then 1 else M 21 t := fun t => by
        rw [g3 21 t (by omega), zup_a (by omega), ← hM2]
        by_cases e : t = s
        · subst e; rw [if_pos rfl, zup_same]
        · rw [if_neg e, zup_k e, g1 21 t (by unfold zblk; omega)]
      have o281 : ∀ t, M3 281 t = if t = s then 1 else M 281 t := fun t => by
        rw [g3 281 t (by omega)]
        by_cases e : t = s
        · subst e; rw [if_pos rfl, zup_same]
        · rw [if_neg e, zup_k e, ← hM2, zup_a (by omega), g1 281 t (by unfold zblk; omega)]
      have e270 : ∀ k, zup M2 281 s 1 270 k = M 270 k := fun k => by
        rw [zup_a (by omega), g2 270 k (by unfold hoA; omega)]
      have ring : ∀ a k, 172 ≤ a → a < 187 → M3 a k = M2 a k := fun a k q1 q2 => by rw [g3 a k (by omega), zup_a (by omega)]
      intro t ht
      rw [o21, o281]
      by_cases e : t = s
      · subst e
        rw [if_pos rfl, if_pos rfl]
        have row : eq60 (fun k => M3 282 (60 * t + k)) (M 270) := fun k hk => by
          show M3 282 _ = _
          rw [e3, if_pos (by omega), e270]
          congr 1
          omega
        exact Or.inr ⟨rfl, rfl, n, (w2.cells (fun a k q1 q2 => ring a k (by omega) (by omega))).to60 row, hg.to60 row⟩
      · rw [if_neg e, if_neg e]
        rcases h t ht with q | ⟨q1, q2, n0, a0, b0⟩
        · exact Or.inl q
        · have row : eq60 (fun k => M3 282 (60 * t + k)) (fun k => M 282 (60 * t + k)) := fun k hk => by
            show M3 282 _ = M 282 _
            rw [e3, if_neg (by omega), zup_a (by omega), ← hM2, zup_a (by omega), g1 282 _ (by unfold zblk; omega)]
          refine Or.inr ⟨q1, q2, n0, (a0.cells (fun a k w1 w2 => ?_)).to60 row, b0.to60 row⟩
          rw [ring a k (by omega) (by omega), ← hM2, zup_a (by omega), g1 a k (by unfold zblk; omega)]
  · rw [ei]
    have fin : zT (some ((0 : Int32), M)) (fun p => zT (zck (zbool p.1) (some (p.1, p.2))) (fun p => zT (zbd (some (0 : Int32)) fun r1 => if r1 = 0 then some ((0 : Int32), p.2) else zck (zin x 3) (zlt (zup p.2 281 (ztn x) 1) fun M5 => zbd (zloop zN (fun v => b_X12_hold_20 R v.2 242 x v.1) ((0 : Int32), M5)) fun e10 => some ((1 : Int32), e10))) (fun p1 => p1.1 = p.1 ∧ zSl p1.2 T S ∧ zag hoA M p1.2))) := zT_some (zT_ck (show zbool (0 : Int32) = true by decide) (zT_some (zT_bd (zT_some (zT_if1 rfl (zT_some ⟨rfl, h, zag.rf⟩))))))
    refine zT_bd2 (zT_if (fun _ => fin) (fun q => zT_if1 (hx.resolve_left q) fin))
theorem zRestore {R : zR} {M : zM} (hR : zMd R) (hK : zKR R) (hX : zXR R) {T S n u x0 : Nat} (h : zSl M T S) (hw : RW M 13 n (M 270)) (hg : zGd n T S (M 270)) (hk : zKp M T S u x0) (x : Int32) : zT (f_X11_restore R M 2 x) (fun p => zT (f_X12_restore R p.2 242 x) (fun p1 => p1.1 = p.1 ∧ ∃ n1 u1, RW p1.2 13 n1 (p1.2 270) ∧ zGd n1 T S (p1.2 270) ∧ zKp p1.2 T S u1 x0 ∧ zag unA M p1.2)) := by
  obtain ⟨k0, k1, k2, k3, k4, k5⟩ := hK
  obtain ⟨_, _, x2, x3, _⟩ := hX
  have r45 : R 242 45 = 270 := hR.at rfl (by decide)
  have r59 : R 242 59 = 281 := hR.at rfl (by decide)
  have r60 : R 242 60 = 282 := hR.at rfl (by decide)
  unfold f_X11_restore f_X2_bringBack f_X2_isHeld f_X12_restore
  rw [x2, x3, k1, k2, r59, nI_lit 3]
  rcases X12_in3 (x := x) with ⟨s, hs, rfl, ei⟩ | ⟨hx, ei⟩
  · rw [ei]
    have hz := zin_nI hs (by omega)
    rw [ztn_nI (by omega), (k4 s hs).1]
    rcases h s hs with ⟨q1, q2⟩ | ⟨q1, q2, n0, a0, b0⟩
    · refine zT_bd2 (zT_bd (zT_if0 (nI_pos (by omega)) (zT_if0 (nI_ge hs (by omega)) (zT_ck hz (zT_if1 q1 (zT_some (zT_if1 rfl (zT_some (zT_if1 rfl (zT_some ?_)))))))))
      )
      refine zT_bd (zT_some (zT_if0 (by decide) (zT_ck hz (zT_if1 q2 (zT_some ⟨rfl, n, u, hw, hg, hk, zag.rf⟩)))))
    · refine zT_bd2 (zT_bd (zT_if0 (nI_pos (by omega)) (zT_if0 (nI_ge hs (by omega)) (zT_ck hz (zT_if0 (by rw [q1]; decide) (zT_some (zT_if0 (by decide) (zT_ck hz (zT_ck hz (zT_bd ?_))))))))))
      refine zT_w (X6_copy k5 (k4 s hs).2 a0 (by omega)) ?_
      rintro M1 ⟨w1, g1⟩
      refine zT_some (zT_if0 (show ¬ (1 : Int32) = 0 by decide) (zT_bd ?_))
      unfold f_X2_forgetPast
      refine zT_lt (zT_some (zT_some ?_))
      simp only
      have g2 : zag unA M (zup M1 18 4 0) := (g1.mo (fun a k q => by unfold zblk at q; unfold unA; omega)).up (Or.inr (Or.inl ⟨rfl, Or.inr rfl⟩))
      have w2 : RW (zup M1 18 4 0) 13 n0 (fun k => M 282 (60 * s + k)) := w1.cells (fun a k q1 q2 => zup_a (by omega))
      have c4 : zup M1 18 4 0 18 4 = nI 0 := zup_same
      have c3 : zup M1 18 4 0 18 3 = nI x0 := by rw [zup_k (by omega), g1 18 3 (by unfold zblk; omega)]; exact hk.2.2.2.2.1
      generalize zup M1 18 4 0 = M2 at g2 w2 c4 c3 ⊢
      have m281 : M2 281 s = 1 := by rw [g2 281 s (by unfold unA; omega)]; exact q2
      refine zT_bd (zT_some (zT_if0 (by decide) (zT_ck hz (zT_if0 (by rw [m281]; decide) (zT_bd ?_)))))
      refine zT_w (zCopy (A := 270) (B := 282) (f := 0) (g := 60 * s) (c := 60) (by omega) ?_ ?_ (fun e => absurd e (by decide))) ?_
      · intro k M3 hk _ _
        show b_X12_restore_22 R M3 242 (nI s) (nI k) = _
        unfold b_X12_restore_22
        have ix : (60 : Int32) * nI s + nI k = nI (60 * s + k) := by rw [nI_lit 60, pk_mul, nI_add]
        rw [r45, r60, ix, nI_lit 60, if_neg (nI_ge hk (by omega)), ztn_nI (by omega), ztn_nI (by omega), Nat.zero_add]
        unfold zck
        rw [if_pos (zin_nI (by omega) (by omega)), if_pos (zin_nI hk (by omega))]
        rfl
      · intro M3 _
        show b_X12_restore_22 R M3 242 (nI s) (nI 60) = _
        unfold b_X12_restore_22
        rw [if_pos (by decide)]
      · rintro M3 ⟨e3, g3⟩
        refine zT_lt (zT_some ⟨rfl, n0, 0, ?_⟩)
        show RW (zup M3 242 48 0) 13 n0 (zup M3 242 48 0 270) ∧ zGd n0 T S (zup M3 242 48 0 270) ∧ zKp (zup M3 242 48 0) T S 0 x0 ∧ zag unA M (zup M3 242 48 0)
        rw [zup_r (show 270 ≠ 242 by decide)]
        have row : eq60 (M3 270) (fun k => M 282 (60 * s + k)) := fun k hk => by
          rw [e3, if_pos (by omega), g2 282 _ (by unfold unA; omega), Nat.sub_zero]
        have g4 : zag unA M (zup M3 242 48 0) := (g2.tr (g3.mo (fun a k q => Or.inr (Or.inr (Or.inl q))))).up (Or.inr (Or.inr (Or.inr ⟨rfl, rfl⟩)))
        refine ⟨(w2.cells (fun a k q1 q2 => by rw [zup_a (by omega), g3 a k (by omega)])).to60 row, b0.to60 row, ⟨by omega, hk.2.1, zup_same, ?_, ?_, fun j hj => absurd hj (by omega)⟩, g4⟩
        · rw [zup_a (by omega), g3 18 4 (by omega)]
          exact c4
        · rw [zup_a (by omega), g3 18 3 (by omega)]
          exact c3
  · rw [ei]
    have no : ∀ y : zM, y = M → zT (zbd (some (0 : Int32)) fun r1 => if r1 = 0 then some ((0 : Int32), y) else zck (zin x 3) (if y 281 (ztn x) = 0 then some ((0 : Int32), y) else zbd (zloop zN (fun v => b_X12_restore_22 R v.2 242 x v.1) ((0 : Int32), y)) fun e10 => zlt (zup e10 242 48 0) fun M11 => some ((1 : Int32), M11))) (fun p1 => p1.1 = 0 ∧ ∃ n1 u1, RW p1.2 13 n1 (p1.2 270) ∧ zGd n1 T S (p1.2 270) ∧ zKp p1.2 T S u1 x0 ∧ zag unA M p1.2) := fun y e => by
      subst e
      exact zT_bd (zT_some (zT_if1 rfl (zT_some ⟨rfl, n, u, hw, hg, hk, zag.rf⟩)))
    refine zT_bd2 (zT_bd (zT_if (fun _ => zT_some (zT_if1 rfl (zT_some (zT_if1 rfl (zT_some (no M rfl)))))) (fun q => zT_if1 (hx.resolve_left q) (zT_some (zT_if1 rfl (zT_some (zT_if1 rfl (zT_some (no M rfl)))))))))

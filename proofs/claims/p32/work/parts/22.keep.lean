/-! TAKEN BACK -/
theorem X2_takeBack0 {R : zR} {M : zM} (h4 : M 18 4 = nI 0) : f_X2_takeBack R M 18 13 = some (0, M) := by
  unfold f_X2_takeBack
  rw [h4, if_neg (by decide)]
theorem X2_takeBack {R : zR} {M : zM} (hK : zKR R) {n u x : Nat} {w : Nat → Int32} (h4 : M 18 4 = nI u) (h3 : M 18 3 = nI x) (hu : u ≤ 30) (h0 : 0 < u) (hx : x < 30) (hw : RW M (22 + 5 * ((x + 29) % 30)) n w) : zT (f_X2_takeBack R M 18 13) (fun p => p.1 = 1 ∧ RW p.2 13 n w ∧ p.2 18 3 = nI ((x + 29) % 30) ∧ p.2 18 4 = nI (u - 1) ∧ zag (fun a k => (13 ≤ a ∧ a < 18) ∨ (a = 18 ∧ (k = 3 ∨ k = 4))) M p.2) := by
  obtain ⟨k0, k1, k2, k3, k4, k5⟩ := hK
  have hy : (x + 29) % 30 < 30 := Nat.mod_lt _ (by omega)
  have fin : ∀ y : Nat, y = (x + 29) % 30 → zT (j_X2_takeBack_32 R M 18 13 (nI y)) (fun p => p.1 = 1 ∧ RW p.2 13 n w ∧ p.2 18 3 = nI ((x + 29) % 30) ∧ p.2 18 4 = nI (u - 1) ∧ zag (fun a k => (13 ≤ a ∧ a < 18) ∨ (a = 18 ∧ (k = 3 ∨ k = 4))) M p.2) := fun y ey => by
    unfold j_X2_takeBack_32
    rw [k0, ztn_nI (by omega), (k3 y (by omega)).1, ey, nI_lit 30]
    refine zT_if0 (nI_ge hy (by omega)) (zT_ck (zin_nI hy (by omega)) (zT_ck (zin_nI hy (by omega)) (zT_bd (zT_w (X6_copy k5 (k3 _ hy).2 hw (by omega)) ?_))))
    rintro M1 ⟨w1, g1⟩
    refine zT_lt ?_
    have e4 : zup M1 18 3 (nI ((x + 29) % 30)) 18 4 = nI u := by rw [zup_k (by omega), g1 18 4 (by unfold zblk; omega)]; exact h4
    rw [e4, nI_sub1 h0]
    refine zT_lt (zT_some ⟨rfl, w1.cells (fun a k q1 q2 => ?_), ?_, ?_, ((g1.mo (fun a k q => by unfold zblk at q; omega)).up (Or.inr ⟨rfl, Or.inl rfl⟩)).up (Or.inr ⟨rfl, Or.inr rfl⟩)⟩)
    · show zup (zup M1 18 3 (nI ((x + 29) % 30))) 18 4 (nI (u - 1)) a k = _
      rw [zup_a (by omega), zup_a (by omega)]
    · show zup (zup M1 18 3 (nI ((x + 29) % 30))) 18 4 (nI (u - 1)) 18 3 = _
      rw [zup_k (by omega), zup_same]
    · show zup (zup M1 18 3 (nI ((x + 29) % 30))) 18 4 (nI (u - 1)) 18 4 = _
      rw [zup_same]
  unfold f_X2_takeBack
  rw [h4, h3]
  refine zT_if1 (nI_lt (a := 0) h0 (by omega)) ?_
  by_cases hx0 : x = 0
  · subst hx0
    exact zT_if1 (by decide) (fin 29 (by omega))
  · refine zT_if0 (nI_ge (a := 0) (by omega) (by omega)) ?_
    rw [nI_sub1 (by omega)]
    exact fin (x - 1) (by omega)
theorem X12_undo0 {R : zR} {M : zM} (h : M 242 48 = nI 0) : f_X12_undo R M 242 = some (0, M) := by
  unfold f_X12_undo
  rw [h, if_pos (by decide)]
theorem X12_undo {R : zR} {M : zM} (hR : zMd R) {u : Nat} (hu : u ≤ 30) (h0 : 0 < u) (h48 : M 242 48 = nI u) : zT (f_X12_undo R M 242) (fun p => p.1 = 1 ∧ (∀ k, k < 60 → p.2 270 k = M 273 (60 * (u - 1) + k)) ∧ p.2 242 48 = nI (u - 1) ∧ zag (fun a k => a = 270 ∨ (a = 242 ∧ k = 48)) M p.2) := by
  unfold f_X12_undo
  have r45 : R 242 45 = 270 := hR.at rfl (by decide)
  have r49 : R 242 49 = 273 := hR.at rfl (by decide)
  rw [h48, nI_sub1 h0]
  refine zT_if0 (nI_ne0 h0 (by omega)) (zT_lt (zT_bd (zT_w (zCopy (A := 270) (B := 273) (f := 0) (g := 60 * (u - 1)) (c := 60) (by omega) ?_ ?_ (fun e => absurd e (by decide))) ?_)))
  · intro k M1 hk g1 _
    show b_X12_undo_21 R M1 242 (nI k) = _
    unfold b_X12_undo_21
    have e48 : M1 242 48 = nI (u - 1) := by rw [g1 242 48 (by omega), zup_same]
    have ix : (60 : Int32) * nI (u - 1) + nI k = nI (60 * (u - 1) + k) := by rw [nI_lit 60, pk_mul, nI_add]
    rw [r45, r49, e48, ix, nI_lit 60, if_neg (nI_ge hk (by omega)), ztn_nI (by omega), ztn_nI (by omega), Nat.zero_add]
    unfold zck
    rw [if_pos (zin_nI (by omega) (by omega)), if_pos (zin_nI hk (by omega))]
    rfl
  · intro M1 _
    show b_X12_undo_21 R M1 242 (nI 60) = _
    unfold b_X12_undo_21
    rw [if_pos (by decide)]
  · rintro M1 ⟨e1, g1⟩
    refine zT_some ⟨rfl, fun k hk => ?_, ?_, (zag.rf.up (Or.inr ⟨rfl, rfl⟩)).tr (g1.mo (fun a k q => Or.inl q))⟩
    · show M1 270 k = _
      rw [e1, if_pos (by omega), zup_a (by omega), Nat.sub_zero]
    · show M1 242 48 = _
      rw [g1 242 48 (by omega), zup_same]
def unA : Nat → Nat → Prop := fun a k => (13 ≤ a ∧ a < 18) ∨ (a = 18 ∧ (k = 3 ∨ k = 4)) ∨ a = 270 ∨ (a = 242 ∧ k = 48)
theorem zUndo {R : zR} {M : zM} (hR : zMd R) (hK : zKR R) {T S u x n : Nat} (h : zKp M T S u x) (hw : RW M 13 n (M 270)) (hg : zGd n T S (M 270)) : zT (f_X2_takeBack R M 18 13) (fun p => (p.1 = 0 ∨ p.1 = 1) ∧ zT (f_X12_undo R p.2 242) (fun p1 => p1.1 = p.1 ∧ ∃ n1 u1 x1, RW p1.2 13 n1 (p1.2 270) ∧ zGd n1 T S (p1.2 270) ∧ zKp p1.2 T S u1 x1 ∧ zag unA M p1.2)) := by
  obtain ⟨q1, q2, q3, q4, q5, q6⟩ := id h
  by_cases h0 : u = 0
  · subst h0
    refine zT_eq (X2_takeBack0 q4) ⟨Or.inl rfl, zT_eq (X12_undo0 q3) ⟨rfl, n, 0, x, hw, hg, h, zag.rf⟩⟩
  obtain ⟨n1, a, b⟩ := q6 (u - 1) (by omega)
  have ix : hix x u (u - 1) = (x + 29) % 30 := by unfold hix; omega
  rw [ix] at a
  refine zT_w (X2_takeBack hK q4 q5 q1 (by omega) q2 a) ?_
  rintro ⟨r, M1⟩ ⟨e1, w1, c3, c4, g1⟩
  simp only at e1 w1 c3 c4 g1 ⊢
  subst e1
  refine ⟨Or.inr rfl, zT_w (X12_undo hR q1 (by omega) (by rw [g1 242 48 (by omega)]; exact q3)) ?_⟩
  rintro ⟨r2, M2⟩ ⟨e2, w2, c48, g2⟩
  simp only at e2 w2 c48 g2 ⊢
  have row : eq60 (M2 270) (fun k => M 273 (60 * (u - 1) + k)) := fun k hk => by
    rw [w2 k hk, g1 273 _ (by omega)]
  refine ⟨e2, n1, u - 1, (x + 29) % 30, (w1.cells (fun a k q1 q2 => g2 a k (by omega))).to60 row, b.to60 row, ?_, (g1.mo (fun a k q => by unfold unA; omega)).tr (g2.mo (fun a k q => by unfold unA; omega))⟩
  refine ⟨by omega, Nat.mod_lt _ (by omega), c48, by rw [g2 18 4 (by omega)]; exact c4, by rw [g2 18 3 (by omega)]; exact c3, fun j hj => ?_⟩
  obtain ⟨n0, a0, b0⟩ := q6 j (by omega)
  have ix2 : hix ((x + 29) % 30) (u - 1) j = hix x u j := by unfold hix; omega
  have lt := hix_lt x u j
  rw [ix2]
  have row2 : eq60 (fun k => M2 273 (60 * j + k)) (fun k => M 273 (60 * j + k)) := fun k _ => by
    show M2 273 _ = M 273 _
    rw [g2 273 _ (by omega), g1 273 _ (by omega)]
  exact ⟨n0, (a0.cells (fun a k q1 q2 => by rw [g2 a k (by omega), g1 a k (by omega)])).to60 row2, b0.to60 row2⟩

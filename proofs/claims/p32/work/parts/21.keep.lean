/-! WHAT IS KEPT -/
def hix (x u j : Nat) : Nat := (x + 30 - u + j) % 30
theorem hix_lt (x u j : Nat) : hix x u j < 30 := Nat.mod_lt _ (by omega)
def zKp (M : zM) (T S u x : Nat) : Prop := u ≤ 30 ∧ x < 30 ∧ M 242 48 = nI u ∧ M 18 4 = nI u ∧ M 18 3 = nI x ∧ ∀ j, j < u → ∃ n, RW M (22 + 5 * hix x u j) n (fun k => M 273 (60 * j + k)) ∧ zGd n T S (fun k => M 273 (60 * j + k))
/-- where the kept rings lie -/
def zKR (R : zR) : Prop := R 18 0 = 19 ∧ R 18 1 = 20 ∧ R 18 2 = 21 ∧ (∀ j, j < 30 → R 19 j = 22 + 5 * j ∧ zrg R (22 + 5 * j)) ∧ (∀ j, j < 3 → R 20 j = 172 + 5 * j ∧ zrg R (172 + 5 * j)) ∧ zrg R 13
theorem RW.cells {M M1 : zM} {r n : Nat} {w : Nat → Int32} (h : RW M r n w) (he : ∀ a k, r ≤ a → a < r + 5 → M1 a k = M a k) : RW M1 r n w := h.eq (A := fun a _ => ¬ (r ≤ a ∧ a < r + 5)) (fun a k q => by
  by_cases e : r ≤ a ∧ a < r + 5
  · exact he a k e.1 e.2
  · exact absurd e q) (fun a k q1 q2 q3 => q3 ⟨q1, q2⟩)
theorem zKp.mo {M : zM} {T S u x T1 S1 : Nat} (h : zKp M T S u x) (hT : T ≤ T1) (hS : S ≤ S1) : zKp M T1 S1 u x := by
  obtain ⟨h1, h2, h3, h4, h5, h6⟩ := h
  refine ⟨h1, h2, h3, h4, h5, fun j hj => ?_⟩
  obtain ⟨n, a, b⟩ := h6 j hj
  exact ⟨n, a, b.mo hT hS⟩
theorem zKp.eq {M M1 : zM} {T S u x : Nat} (h : zKp M T S u x) (e1 : M1 242 48 = M 242 48) (e2 : M1 18 4 = M 18 4) (e3 : M1 18 3 = M 18 3) (e4 : ∀ k, M1 273 k = M 273 k) (e5 : ∀ a k, 22 ≤ a → a < 172 → M1 a k = M a k) : zKp M1 T S u x := by
  obtain ⟨h1, h2, h3, h4, h5, h6⟩ := h
  refine ⟨h1, h2, by rw [e1]; exact h3, by rw [e2]; exact h4, by rw [e3]; exact h5, fun j hj => ?_⟩
  obtain ⟨n, a, b⟩ := h6 j hj
  have := hix_lt x u j
  have row : eq60 (fun k => M1 273 (60 * j + k)) (fun k => M 273 (60 * j + k)) := fun k _ => e4 _
  exact ⟨n, (a.cells (fun a k q1 q2 => e5 a k (by omega) (by omega))).to60 row, b.to60 row⟩
theorem zKp.step {M M2 : zM} {T S u x n u1 : Nat} (h : zKp M T S u x) (hu : u1 = if u = 30 then 30 else u + 1) (h3 : M2 18 3 = nI ((x + 1) % 30)) (h4 : M2 18 4 = nI u1) (h48 : M2 242 48 = nI u1) (hr : RW M2 (22 + 5 * x) n (M 270)) (hg : zGd n T S (M 270)) (ho : ∀ a k, 22 ≤ a → a < 172 → ¬ (22 + 5 * x ≤ a ∧ a < 27 + 5 * x) → M2 a k = M a k) (hh1 : ∀ j k, j + 1 < u1 → k < 60 → M2 273 (60 * j + k) = M 273 (60 * (j + (u + 1 - u1)) + k)) (hh2 : ∀ k, k < 60 → M2 273 (60 * (u1 - 1) + k) = M 270 k) : zKp M2 T S u1 ((x + 1) % 30) := by
  obtain ⟨q1, q2, q3, q4, q5, q6⟩ := h
  have hu2 : u1 ≤ 30 ∧ 0 < u1 ∧ u1 ≤ u + 1 ∧ u ≤ u1 := by rw [hu]; split <;> omega
  refine ⟨hu2.1, Nat.mod_lt _ (by omega), h48, h4, h3, fun j hj => ?_⟩
  by_cases e : j + 1 = u1
  · have ix : hix ((x + 1) % 30) u1 j = x := by unfold hix; omega
    have row : eq60 (fun k => M2 273 (60 * j + k)) (M 270) := fun k hk => by
      have := hh2 k hk
      rw [show u1 - 1 = j by omega] at this
      exact this
    rw [ix]
    exact ⟨n, hr.to60 row, hg.to60 row⟩
  · obtain ⟨n0, a, b⟩ := q6 (j + (u + 1 - u1)) (by omega)
    have ix : hix ((x + 1) % 30) u1 j = hix x u (j + (u + 1 - u1)) := by unfold hix; omega
    have ne : hix x u (j + (u + 1 - u1)) ≠ x := by
      unfold hix
      rw [hu] at hj e ⊢
      split at hj
      · rename_i h30
        subst h30
        rw [if_pos rfl] at e ⊢
        omega
      · rename_i h30
        rw [if_neg h30] at e ⊢
        omega
    have lt := hix_lt x u (j + (u + 1 - u1))
    rw [ix]
    have row : eq60 (fun k => M2 273 (60 * j + k)) (fun k => M 273 (60 * (j + (u + 1 - u1)) + k)) := fun k hk => hh1 j k (by omega) hk
    exact ⟨n0, (a.cells (fun a k q1 q2 => ho a k (by omega) (by omega) (by omega))).to60 row, b.to60 row⟩
theorem X2_note {R : zR} {M : zM} (hK : zKR R) {n u x : Nat} {w : Nat → Int32} (h4 : M 18 4 = nI u) (h3 : M 18 3 = nI x) (hu : u ≤ 30) (hx : x < 30) (hw : RW M 13 n w) : zT (f_X2_note R M 18 13) (fun M1 => RW M1 (22 + 5 * x) n w ∧ M1 18 3 = nI ((x + 1) % 30) ∧ M1 18 4 = nI (if u = 30 then 30 else u + 1) ∧ zag (fun a k => (22 + 5 * x ≤ a ∧ a < 27 + 5 * x) ∨ (a = 18 ∧ (k = 3 ∨ k = 4))) M M1) := by
  obtain ⟨k0, k1, k2, k3, k4, k5⟩ := hK
  unfold f_X2_note
  rw [h3, k0, ztn_nI (by omega), (k3 x hx).1, nI_lit 30]
  refine zT_if0 (nI_pos (by omega)) (zT_if0 (nI_ge hx (by omega)) (zT_ck (zin_nI hx (by omega)) (zT_ck (zin_nI hx (by omega)) (zT_bd (zT_w (X6_copy (k3 x hx).2 k5 hw (by omega)) ?_)))))
  rintro M1 ⟨w1, g1⟩
  have m3 : M1 18 3 = nI x := by rw [g1 18 3 (by unfold zblk; omega)]; exact h3
  have m4 : M1 18 4 = nI u := by rw [g1 18 4 (by unfold zblk; omega)]; exact h4
  rw [m3, nI_1]
  have fin : ∀ y : Nat, y = (x + 1) % 30 → zT (j_X2_note_70 R M1 18 18 (nI y)) (fun M1 => RW M1 (22 + 5 * x) n w ∧ M1 18 3 = nI ((x + 1) % 30) ∧ M1 18 4 = nI (if u = 30 then 30 else u + 1) ∧ zag (fun a k => (22 + 5 * x ≤ a ∧ a < 27 + 5 * x) ∨ (a = 18 ∧ (k = 3 ∨ k = 4))) M M1) := fun y hy => by
    unfold j_X2_note_70
    refine zT_lt ?_
    have e4 : zup M1 18 3 (nI y) 18 4 = nI u := by rw [zup_k (by omega)]; exact m4
    have g2 : zag (fun a k => (22 + 5 * x ≤ a ∧ a < 27 + 5 * x) ∨ (a = 18 ∧ (k = 3 ∨ k = 4))) M (zup M1 18 3 (nI y)) := (g1.mo (fun a k q => by unfold zblk at q; omega)).up (Or.inr ⟨rfl, Or.inl rfl⟩)
    rw [e4, nI_lit 30]
    by_cases h30 : u = 30
    · refine zT_if1 (by rw [h30]; exact Int32.le_refl _) (zT_some ⟨w1.cells (fun a k q1 q2 => zup_a (by omega)), by rw [zup_same, hy], by rw [e4, if_pos h30, h30], g2⟩)
    · refine zT_if0 (nI_ge (by omega) (by omega)) (zT_lt (zT_some ⟨w1.cells (fun a k q1 q2 => ?_), ?_, ?_, g2.up (Or.inr ⟨rfl, Or.inr rfl⟩)⟩))
      · rw [zup_a (by omega), zup_a (by omega)]
      · rw [zup_k (by omega), zup_same, hy]
      · rw [zup_same, if_neg h30, nI_1]
  by_cases hx2 : x + 1 = 30
  · refine zT_if1 (by rw [hx2]; exact Int32.le_refl _) (fin 0 (by omega))
  · refine zT_if0 (nI_ge (by omega) (by omega)) (fin (x + 1) (by omega))
theorem X12_keeps {R : zR} {M : zM} (hR : zMd R) {u : Nat} (hu : u ≤ 30) (h48 : M 242 48 = nI u) : zT (f_X12_keeps R M 242) (fun M1 => eq60 (M1 270) (M 271) ∧ M1 242 48 = nI (if u = 30 then 30 else u + 1) ∧ (∀ j k, j + 1 < (if u = 30 then 30 else u + 1) → k < 60 → M1 273 (60 * j + k) = M 273 (60 * (j + (u + 1 - (if u = 30 then 30 else u + 1))) + k)) ∧ (∀ k, k < 60 → M1 273 (60 * ((if u = 30 then 30 else u + 1) - 1) + k) = M 270 k) ∧ zag (fun a k => a = 270 ∨ a = 273 ∨ (a = 242 ∧ k = 48)) M M1) := by
  have r45 : R 242 45 = 270 := hR.at rfl (by decide)
  have r46 : R 242 46 = 271 := hR.at rfl (by decide)
  have r49 : R 242 49 = 273 := hR.at rfl (by decide)
  -- the last two loops
  have tail : ∀ (M0 : zM) (v : Nat), v < 30 → M0 242 48 = nI v → zT (zbd (zloop zN (fun v => b_X12_keeps_51 R v.2 242 v.1) ((0 : Int32), M0)) fun e6 => zlt (zup e6 242 48 ((e6 242 48) + (1 : Int32))) fun M7 => zbd (zloop zN (fun v => b_X12_keeps_95 R v.2 242 v.1) ((0 : Int32), M7)) fun e12 => some e12) (fun M1 => eq60 (M1 270) (M0 271) ∧ M1 242 48 = nI (v + 1) ∧ (∀ j, M1 273 j = if 60 * v ≤ j ∧ j < 60 * v + 60 then M0 270 (j - 60 * v) else M0 273 j) ∧ zag (fun a k => a = 270 ∨ a = 273 ∨ (a = 242 ∧ k = 48)) M0 M1) := by
    intro M0 v hv hv48
    refine zT_bd (zT_w (zCopy (A := 273) (B := 270) (f := 60 * v) (g := 0) (c := 60) (by omega) ?_ ?_ (fun e => absurd e (by decide))) ?_)
    · intro k M1 hk g1 _
      show b_X12_keeps_51 R M1 242 (nI k) = _
      unfold b_X12_keeps_51
      have e48 : M1 242 48 = nI v := by rw [g1 242 48 (by omega)]; exact hv48
      have ix : (60 : Int32) * nI v + nI k = nI (60 * v + k) := by rw [nI_lit 60, pk_mul, nI_add]
      rw [r45, r49, e48, ix, nI_lit 60, if_neg (nI_ge hk (by omega)), ztn_nI (by omega), ztn_nI (by omega), Nat.zero_add]
      unfold zck
      rw [if_pos (zin_nI hk (by omega)), if_pos (zin_nI (by omega) (by omega))]
      rfl
    · intro M1 _
      show b_X12_keeps_51 R M1 242 (nI 60) = _
      unfold b_X12_keeps_51
      rw [if_pos (by decide)]
    · rintro M1 ⟨e1, g1⟩
      have e48 : M1 242 48 = nI v := by rw [g1 242 48 (by omega)]; exact hv48
      refine zT_lt ?_
      rw [e48, nI_1]
      refine zT_bd (zT_w (zCopy (A := 270) (B := 271) (f := 0) (g := 0) (c := 60) (by omega) ?_ ?_ (fun e => absurd e (by decide))) ?_)
      · intro k M2 hk _ _
        show b_X12_keeps_95 R M2 242 (nI k) = _
        unfold b_X12_keeps_95
        rw [r45, r46, nI_lit 60, if_neg (nI_ge hk (by omega)), ztn_nI (by omega), Nat.zero_add]
        unfold zck
        rw [if_pos (zin_nI hk (by omega)), if_pos (zin_nI hk (by omega))]
        rfl
      · intro M2 _
        show b_X12_keeps_95 R M2 242 (nI 60) = _
        unfold b_X12_keeps_95
        rw [if_pos (by decide)]
      · rintro M2 ⟨e2, g2⟩
        refine zT_some ⟨fun k hk => ?_, ?_, fun j => ?_, ?_⟩
        · rw [e2, if_pos (by omega), zup_a (by omega), g1 271 _ (by omega), Nat.zero_add, Nat.sub_zero]
        · rw [g2 242 48 (by omega), zup_same]
        · rw [g2 273 j (by omega), zup_a (by omega), e1]
          simp only [Nat.zero_add]
        · exact ((g1.mo (fun a k q => Or.inr (Or.inl q))).up (Or.inr (Or.inr ⟨rfl, rfl⟩))).tr (g2.mo (fun a k q => Or.inl q))
  unfold f_X12_keeps
  rw [h48]
  by_cases h30 : u = 30
  · subst h30
    simp only [if_pos]
    refine zT_if1 rfl (zT_bd (zT_w (zCopy (A := 273) (B := 273) (f := 0) (g := 60) (c := 1740) (by omega) ?_ ?_ (fun _ => by omega)) ?_))
    · intro k M1 hk _ _
      show b_X12_keeps_11 R M1 242 (nI k) = _
      unfold b_X12_keeps_11
      rw [r49, nI_lit 60, nI_lit 1740, nI_add, if_neg (nI_ge hk (by omega)), ztn_nI (by omega), ztn_nI (by omega), Nat.zero_add, Nat.add_comm 60 k]
      unfold zck
      rw [if_pos (zin_nI (by omega) (by omega)), if_pos (zin_nI (by omega) (by omega))]
      rfl
    · intro M1 _
      show b_X12_keeps_11 R M1 242 (nI 1740) = _
      unfold b_X12_keeps_11
      rw [if_pos (by decide)]
    · rintro M1 ⟨e1, g1⟩
      have e48 : M1 242 48 = nI 30 := by rw [g1 242 48 (by omega)]; exact h48
      refine zT_lt ?_
      rw [e48, nI_sub1 (by omega)]
      refine zT_w (tail _ 29 (by omega) zup_same) ?_
      rintro M2 ⟨a1, a2, a3, a4⟩
      refine ⟨fun k hk => ?_, a2, fun j k hj hk => ?_, fun k hk => ?_, ?_⟩
      · rw [a1 k hk, zup_a (by omega), g1 271 k (by omega)]
      · rw [a3, if_neg (by omega), zup_a (by omega), e1, if_pos (by omega)]
        rw [show 60 + (60 * j + k - 0) = 60 * (j + (30 + 1 - 30)) + k by omega]
      · rw [a3, if_pos (by omega), zup_a (by omega), g1 270 _ (by omega), show 60 * (30 - 1) + k - 60 * 29 = k by omega]
      · exact ((g1.mo (fun a k q => Or.inr (Or.inl q))).up (Or.inr (Or.inr ⟨rfl, rfl⟩))).tr a4
  · simp only [if_neg h30]
    refine zT_if0 ?_ ?_
    · rw [nI_lit 30]
      intro q
      exact h30 (nI_inj (by omega) (by omega) q)
    refine zT_w (tail M u (by omega) h48) ?_
    rintro M2 ⟨a1, a2, a3, a4⟩
    refine ⟨a1, a2, fun j k hj hk => ?_, fun k hk => ?_, a4⟩
    · rw [a3, if_neg (by omega), Nat.sub_self, Nat.add_zero]
    · rw [a3, if_pos (by omega), show 60 * (u + 1 - 1) + k - 60 * u = k by omega]

/-! READ: what is forgotten -/
section RD
variable {R : zR} {M M1 : zM} {L : zL} {n l : Nat}
theorem X2_clear (h2 : R 18 2 = 21) : zT (f_X2_clear R M 18) (fun M1 => M1 18 4 = 0 ∧ (∀ j, j < 3 → M1 21 j = 0) ∧ zag (fun b k => (b = 18 ∧ k = 4) ∨ b = 21) M M1) := by
  unfold f_X2_clear f_X2_forgetPast
  refine zT_bd (zT_lt (zT_some (zT_bd ?_)))
  refine zT_for 3 (fun k v => v.1 = nI k ∧ v.2 18 4 = 0 ∧ (∀ j, j < k → v.2 21 j = 0) ∧ zag (fun b k => (b = 18 ∧ k = 4) ∨ b = 21) M v.2) ⟨rfl, by dsimp only; exact zup_same, fun j hj => absurd hj (by omega), zag.rf.up (Or.inl ⟨rfl, rfl⟩)⟩ (by omega) ?_ ?_
  · rintro k ⟨y, M2⟩ hk ⟨rfl, a, b, g⟩
    simp only at a b g ⊢
    unfold b_X2_clear_6
    rw [h2, ztn_nI (by omega)]
    refine zT_if0 (by rw [nI_lit 3]; exact nI_ge hk (by omega)) (zT_ck (zin_nI (by omega) (by omega)) (zT_lt (zT_some ⟨nI_1 k, ?_, fun j hj => ?_, g.up (Or.inr rfl)⟩)))
    · dsimp only
      rw [zup_a (by omega)]
      exact a
    · dsimp only
      by_cases e : j = k
      · rw [e, zup_same]
      · rw [zup_k e]
        exact b j (by omega)
  · rintro ⟨y, M2⟩ ⟨rfl, a, b, g⟩
    simp only at a b g ⊢
    unfold b_X2_clear_6
    exact zT_if1 (by decide) (zT_some (zT_some ⟨a, b, g⟩))
theorem X12_zero (hR : zMd R) : zT (zloop zN (fun v => b_X12_read_295 R v.2 L 242 v.1) ((0 : Int32), M)) (fun M1 => (∀ j, j < 60 → M1 270 j = 0) ∧ zag (fun b _ => b = 270) M M1) := by
  refine zT_for 60 (fun k v => v.1 = nI k ∧ (∀ j, j < k → v.2 270 j = 0) ∧ zag (fun b _ => b = 270) M v.2) ⟨rfl, fun j hj => absurd hj (by omega), zag.rf⟩ (by omega) ?_ ?_
  · rintro k ⟨y, M2⟩ hk ⟨rfl, b, g⟩
    simp only at b g ⊢
    unfold b_X12_read_295
    rw [hR.at (k := 45) (b := 270) rfl (by decide), ztn_nI (by omega)]
    refine zT_if0 (by rw [nI_lit 60]; exact nI_ge hk (by omega)) (zT_ck (zin_nI (by omega) (by omega)) (zT_lt (zT_some ⟨nI_1 k, fun j hj => ?_, g.up rfl⟩)))
    dsimp only
    by_cases e : j = k
    · rw [e, zup_same]
    · rw [zup_k e]
      exact b j (by omega)
  · rintro ⟨y, M2⟩ ⟨rfl, b, g⟩
    simp only at b g ⊢
    unfold b_X12_read_295
    exact zT_if1 (by decide) (zT_some ⟨b, g⟩)
theorem X12_purses (hR : zMd R) (hl : l < 2) (hn : n ≤ 10) (h18 : M 242 18 = nI l) (h51 : M 251 l = nI n) : zT (zloop zN (fun v => b_X12_read_332 R v.2 L 242 v.1) ((0 : Int32), M)) (fun M1 => (∀ j, j < n → M1 270 j = M 252 (10 * l + j)) ∧ (∀ j, n ≤ j → M1 270 j = M 270 j) ∧ zag (fun b _ => b = 270) M M1) := by
  refine zT_for n (fun k v => v.1 = nI k ∧ (∀ j, j < k → v.2 270 j = M 252 (10 * l + j)) ∧ (∀ j, k ≤ j → v.2 270 j = M 270 j) ∧ zag (fun b _ => b = 270) M v.2) ⟨rfl, fun j hj => absurd hj (by omega), fun _ _ => rfl, zag.rf⟩ (by omega) ?_ ?_
  · rintro k ⟨y, M2⟩ hk ⟨rfl, b, c, g⟩
    simp only at b c g ⊢
    unfold b_X12_read_332
    rw [g 242 18 (by omega), h18, hR.at (k := 45) (b := 270) rfl (by decide), hR.at (k := 22) (b := 251) rfl (by decide), hR.at (k := 23) (b := 252) rfl (by decide), ztn_nI (by omega), g 251 l (by omega), h51, nI_10l hl, ztn_nI (by omega), ztn_nI (by omega), g 252 _ (by omega)]
    refine zT_ck (zin_nI (by omega) (by omega)) (zT_if0 (nI_ge hk (by omega)) (zT_ck (zin_nI (by omega) (by omega)) (zT_ck (zin_nI (by omega) (by omega)) (zT_lt (zT_some ⟨nI_1 k, fun j hj => ?_, fun j hj => ?_, g.up rfl⟩)))))
    · dsimp only
      by_cases e : j = k
      · rw [e, zup_same]
      · rw [zup_k e]
        exact b j (by omega)
    · dsimp only
      rw [zup_k (by omega)]
      exact c j (by omega)
  · rintro ⟨y, M2⟩ ⟨rfl, b, c, g⟩
    simp only at b c g ⊢
    unfold b_X12_read_332
    rw [g 242 18 (by omega), h18, hR.at (k := 22) (b := 251) rfl (by decide), ztn_nI (by omega), g 251 l (by omega), h51]
    exact zT_ck (zin_nI (by omega) (by omega)) (zT_if1 (Int32.le_refl _) (zT_some ⟨b, c, g⟩))
end RD

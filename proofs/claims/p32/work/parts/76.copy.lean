/-! READ, on the reference's side: the bytes copied -/
section REF
variable {R : zR} {M M1 : zM} {L : zL} {n : Nat}
theorem X12_copyB (hR : zMd R) (hn : n ≤ 2000) (h4 : M 242 4 = nI n) : zT (zloop zN (fun v => b_X12_read_10 R v.2 L 242 v.1) ((0 : Int32), M)) (fun M1 => btR M1 (fun j => zbyte (M 243 j)) n ∧ zag (fun b _ => b = 244) M M1) := by
  refine zT_for n (fun k v => v.1 = nI k ∧ (∀ j, j < k → v.2 244 j = (M 243 j).toInt8.toInt32) ∧ zag (fun b _ => b = 244) M v.2) ⟨rfl, fun j hj => absurd hj (by omega), zag.rf⟩ (by omega) ?_ ?_
  · rintro k ⟨y, M2⟩ hk ⟨rfl, g1, g2⟩
    simp only at g1 g2 ⊢
    unfold b_X12_read_10
    rw [g2 242 4 (by omega), h4, hR.at (k := 3) (b := 244) rfl (by decide), hR.at (k := 1) (b := 243) rfl (by decide), ztn_nI (by omega), g2 243 k (by omega)]
    refine zT_if0 (nI_ge hk (by omega)) (zT_ck (zin_nI (by omega) (by omega)) (zT_ck (zin_nI (by omega) (by omega)) (zT_lt (zT_some ⟨nI_1 k, fun j hj => ?_, g2.up rfl⟩))))
    dsimp only
    by_cases e : j = k
    · rw [e, zup_same]
    · rw [zup_k e]
      exact g1 j (by omega)
  · rintro ⟨y, M2⟩ ⟨rfl, g1, g2⟩
    simp only at g1 g2 ⊢
    unfold b_X12_read_10
    refine zT_if1 (by rw [g2 242 4 (by omega), h4]; exact Int32.le_refl _) (zT_some ⟨⟨hn, by rw [g2 242 4 (by omega)]; exact h4, fun j hj => ?_⟩, g2⟩)
    rw [g1 j hj, and255r, and255]
end REF
/-- the tokens as both have them -/
theorem ft_N {B : Nat → Nat} {n : Nat} {L : zL} (hB : ∀ i, B i < 256) (hn : n ≤ 2000) (hv : ∀ i, i ≤ cN B n → kN B n i = 2 → 0 ≤ vN B n i ∧ vN B n i ≤ 9999) (hE : ∀ i j, i ≤ cN B n → j ≤ cN B n → kN B n i = 1 → kN B n j = 1 → (eN B n i j = true ↔ L 248 i = L 248 j)) : ftR (kN B n) (vN B n) (pN B n) (eN B n) (cN B n) L := ⟨fun i _ => kN_kd i, kN_end, pN_lt hB hn, fun i hi hk => (hv i hi hk).1, fun i hi hk => (hv i hi hk).2, hE⟩

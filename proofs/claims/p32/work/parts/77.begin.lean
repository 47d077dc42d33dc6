/-! READ, on the class's side: the ring begun anew -/
def begF (p : Nat → Int32) : Nat → Nat → Int32
  | 0 => fun _ => 0
  | k + 1 => buildF k k (p k) (begF p k)
theorem X6_begin {R : zR} {M : zM} {r q n : Nat} (hR : zrg R r) (hq : r + 5 ≤ q ∨ q + 10 ≤ r) (h2 : R q 2 = q + 9) (h5 : M q 5 = nI n) (hn : n ≤ 10) : zT (f_X6_begin R M r q) (fun M1 => RW M1 r n (begF (M (q + 9)) n) ∧ zag (zblk r) M M1) := by
  unfold f_X6_begin
  refine zT_lt (zT_lt (zT_lt (zT_lt (zT_bd ?_))))
  have g0 : zag (zblk r) M (zup (zup (zup (zup M r 4 0) r 5 0) r 6 0) r 7 0) := (((zag.rf.up (by unfold zblk; omega)).up (by unfold zblk; omega)).up (by unfold zblk; omega)).up (by unfold zblk; omega)
  have w0 : RW (zup (zup (zup (zup M r 4 0) r 5 0) r 6 0) r 7 0) r 0 (begF (M (q + 9)) 0) := by
    refine ⟨by omega, ?_, rfl, ?_, ?_, zup_same, fun h hh => absurd hh (by omega)⟩
    · rw [zup_k (by omega), zup_k (by omega), zup_k (by omega), zup_same]; rfl
    · rw [zup_k (by omega), zup_k (by omega), zup_same]; rfl
    · rw [zup_k (by omega), zup_same]; rfl
  generalize zup (zup (zup (zup M r 4 0) r 5 0) r 6 0) r 7 0 = M0 at g0 w0 ⊢
  refine zT_for n (fun k v => v.1 = nI k ∧ RW v.2 r k (begF (M (q + 9)) k) ∧ zag (zblk r) M v.2) ⟨rfl, w0, g0⟩ (by omega) ?_ ?_
  · rintro k ⟨y, M2⟩ hk ⟨rfl, w, g⟩
    simp only at w g ⊢
    unfold b_X6_begin_22
    rw [g q 5 (by unfold zblk; omega), h5, h2, ztn_nI (by omega), g (q + 9) k (by unfold zblk; omega)]
    refine zT_if0 (nI_ge hk (by omega)) (zT_if0 (by rw [nI_lit 10]; exact nI_ge (by omega) (by omega)) (zT_ck (zin_nI (by omega) (by omega)) (zT_bd (zT_w (X6_insert hR w (Nat.le_refl k) (by omega) _) ?_))))
    rintro M3 ⟨w3, g3⟩
    exact zT_some ⟨nI_1 k, w3, g.tr g3⟩
  · rintro ⟨y, M2⟩ ⟨rfl, w, g⟩
    simp only at w g ⊢
    unfold b_X6_begin_22
    exact zT_if1 (by rw [g q 5 (by unfold zblk; omega), h5]; exact Int32.le_refl _) (zT_some (zT_some ⟨w, g⟩))

/-! HOUSES BUILT, GONE, JOINED, on the reference's side -/
theorem nI_0of {p : Nat} (hp : p < 2147483648) (h : nI p = 0) : p = 0 := by
  rcases Nat.eq_zero_or_pos p with q | q
  · exact q
  · exact absurd h (nI_ne0 q hp)
theorem X12_builds {R : zR} {M : zM} (hR : zMd R) {n a : Nat} (hn : n < 10) (ha : a ≤ n) (hw : M 271 40 = nI n) (x : Int32) : zT (f_X12_builds R M 242 (nI a) x) (fun M1 => M1 271 = buildF n a x (M 271) ∧ zag (fun b _ => b = 271) M M1) := by
  unfold f_X12_builds
  have r46 : R 242 46 = 271 := hR.at rfl (by decide)
  rw [r46]
  refine zT_bd ?_
  refine zT_w (Q := fun M1 => (∀ k, M1 271 k = if k < 40 then buildF n a x (M 271) k else M 271 k) ∧ zag (fun b _ => b = 271) M M1) (zT_for 4 (fun p v => v.1 = nI p ∧ (∀ k, v.2 271 k = if k < 10 * p then buildF n a x (M 271) k else M 271 k) ∧ zag (fun b _ => b = 271) M v.2) ⟨rfl, fun k => by rw [if_neg (by omega)], zag.rf⟩ (by omega) ?_ ?_) ?_
  · rintro p ⟨y, M1⟩ hp ⟨rfl, e1, g1⟩
    simp only at e1 g1 ⊢
    unfold b_X12_builds_2
    rw [r46]
    have w40 : M1 271 (ztn (40 : Int32)) = nI n := by
      rw [show ztn (40 : Int32) = 40 from rfl, e1, if_neg (by omega)]
      exact hw
    rw [w40]
    refine zT_if0 (by rw [nI_lit 4]; exact nI_ge hp (by omega)) (zT_bd ?_)
    refine zT_loop (fun m v => ∃ h, m = h - a ∧ a ≤ h ∧ h ≤ n ∧ v.1 = nI h ∧ (∀ k, v.2 271 k = if 10 * p + h < k ∧ k ≤ 10 * p + n then M1 271 (k - 1) else M1 271 k) ∧ zag (fun b _ => b = 271) M v.2) (n - a) ⟨n, rfl, ha, Nat.le_refl _, rfl, fun k => by rw [if_neg (by omega)], g1⟩ (by omega) ?_
    rintro m ⟨z, M2⟩ ⟨h, rfl, h1, h2, rfl, e2, g2⟩
    simp only at e2 g2 ⊢
    unfold b_X12_builds_16
    rw [r46]
    have ix : (10 : Int32) * nI p + nI h = nI (10 * p + h) := by rw [nI_lit 10, pk_mul, nI_add]
    by_cases hk : h = a
    · subst hk
      refine zT_if1 (nI_le (Nat.le_refl _) (by omega)) (zT_some ?_)
      have fin : ∀ v : Int32, v = (if p = 0 then x else 0) → ∀ k, zup M2 271 (10 * p + h) v 271 k = if k < 10 * (p + 1) then buildF n h x (M 271) k else M 271 k := by
        intro v hv k
        rcases Nat.lt_or_ge k (10 * p) with q | q
        · rw [zup_k (by omega), e2, if_neg (by omega), e1, if_pos q, if_pos (by omega)]
        rcases Nat.lt_or_ge k (10 * p + 10) with q2 | q2
        · obtain ⟨j, hj, rfl⟩ : ∃ j, j < 10 ∧ k = 10 * p + j := ⟨k - 10 * p, by omega, by omega⟩
          rw [if_pos (by omega), buildF_at hp hj]
          rcases Nat.lt_trichotomy j h with c | c | c
          · rw [zup_k (by omega), e2, if_neg (by omega), e1, if_neg (by omega), if_pos c]
          · subst c
            rw [zup_same, if_neg (by omega), if_pos rfl, hv]
          · rw [zup_k (by omega), e2, if_neg (by omega : ¬ j < h), if_neg (by omega : ¬ j = h)]
            by_cases c2 : j ≤ n
            · rw [if_pos (by omega), if_pos c2, e1, if_neg (by omega)]
            · rw [if_neg (by omega), if_neg c2, e1, if_neg (by omega)]
        · rw [zup_k (by omega), e2, if_neg (by omega), e1, if_neg (by omega), if_neg (by omega)]
      show zT _ _
      rw [ix]
      refine zT_if (fun e => ?_) (fun e => ?_)
      · have p0 := nI_0of (by omega) e
        unfold j_X12_builds_73
        refine zT_ck (zin_nI (by omega) (by omega)) (zT_lt (zT_some ⟨nI_1 p, ?_, z271.up g2⟩))
        rw [ztn_nI (by omega)]
        exact fin _ (by rw [if_pos p0])
      · have p0 : p ≠ 0 := fun q => e (by rw [q]; rfl)
        unfold j_X12_builds_73
        refine zT_ck (zin_nI (by omega) (by omega)) (zT_lt (zT_some ⟨nI_1 p, ?_, z271.up g2⟩))
        rw [ztn_nI (by omega)]
        exact fin _ (by rw [if_neg p0])
    · refine zT_if0 (nI_ge (by omega) (by omega)) ?_
      rw [ix, nI_sub1 (by omega)]
      refine zT_ck (zin_nI (by omega) (by omega)) (zT_ck (zin_nI (by omega) (by omega)) (zT_lt (zT_some ⟨h - 1 - a, by omega, h - 1, rfl, by omega, by omega, nI_dec (by omega), fun k => ?_, z271.up g2⟩)))
      rw [ztn_nI (by omega), ztn_nI (by omega)]
      show zup M2 271 (10 * p + h) (M2 271 (10 * p + h - 1)) 271 k = _
      by_cases c : k = 10 * p + h
      · subst c
        rw [zup_same, e2, if_neg (by omega), if_pos (by omega)]
      · rw [zup_k c, e2]
        by_cases c2 : 10 * p + h < k ∧ k ≤ 10 * p + n
        · rw [if_pos c2, if_pos (by omega)]
        · rw [if_neg c2, if_neg (by omega)]
  · rintro ⟨y, M1⟩ ⟨rfl, e1, g1⟩
    simp only at e1 g1 ⊢
    unfold b_X12_builds_2
    exact zT_if1 (by decide) (zT_some ⟨e1, g1⟩)
  · rintro M1 ⟨e1, g1⟩
    refine zT_lt (zT_some ⟨?_, z271.up g1⟩)
    funext k
    rw [show ztn (40 : Int32) = 40 from rfl]
    by_cases c : k = 40
    · subst c
      rw [zup_same, e1, if_neg (by omega)]
      unfold buildF
      rw [if_pos rfl]
    · rw [zup_k c, e1]
      by_cases c2 : k < 40
      · rw [if_pos c2]
      · rw [if_neg c2]
        unfold buildF
        rw [if_neg c, if_neg c2]
theorem X12_goes {R : zR} {M : zM} (hR : zMd R) {a : Nat} (ha : a < 10) : zT (f_X12_goes R M 242 (nI a)) (fun M1 => M1 271 = goesF a (M 271) ∧ zag (fun b _ => b = 271) M M1) := by
  unfold f_X12_goes
  have r46 : R 242 46 = 271 := hR.at rfl (by decide)
  rw [r46]
  refine zT_bd ?_
  refine zT_w (Q := fun M1 => (∀ k, M1 271 k = if k < 40 then goesF a (M 271) k else M 271 k) ∧ zag (fun b _ => b = 271) M M1) (zT_for 4 (fun p v => v.1 = nI p ∧ (∀ k, v.2 271 k = if k < 10 * p then goesF a (M 271) k else M 271 k) ∧ zag (fun b _ => b = 271) M v.2) ⟨rfl, fun k => by rw [if_neg (by omega)], zag.rf⟩ (by omega) ?_ ?_) ?_
  · rintro p ⟨y, M1⟩ hp ⟨rfl, e1, g1⟩
    simp only at e1 g1 ⊢
    unfold b_X12_goes_2
    rw [r46]
    refine zT_if0 (by rw [nI_lit 4]; exact nI_ge hp (by omega)) (zT_bd ?_)
    refine zT_for (9 - a) (fun i v => v.1 = nI (a + i) ∧ (∀ k, v.2 271 k = if 10 * p + a ≤ k ∧ k < 10 * p + a + i then M1 271 (k + 1) else M1 271 k) ∧ zag (fun b _ => b = 271) M v.2) ⟨rfl, fun k => by rw [if_neg (by omega)], g1⟩ (by omega) ?_ ?_
    · rintro i ⟨z, M2⟩ hi ⟨rfl, e2, g2⟩
      simp only at e2 g2 ⊢
      unfold b_X12_goes_9
      have ix : (10 : Int32) * nI p + nI (a + i) = nI (10 * p + (a + i)) := by rw [nI_lit 10, pk_mul, nI_add]
      rw [r46, ix, nI_1]
      refine zT_if0 (by rw [nI_lit 9]; exact nI_ge (by omega) (by omega)) (zT_ck (zin_nI (by omega) (by omega)) (zT_ck (zin_nI (by omega) (by omega)) (zT_lt (zT_some ⟨nI_1 _, fun k => ?_, z271.up g2⟩))))
      rw [ztn_nI (by omega), ztn_nI (by omega)]
      show zup M2 271 (10 * p + (a + i)) (M2 271 (10 * p + (a + i) + 1)) 271 k = _
      by_cases c : k = 10 * p + (a + i)
      · subst c
        rw [zup_same, e2, if_neg (by omega), if_pos (by omega)]
      · rw [zup_k c, e2]
        by_cases c2 : 10 * p + a ≤ k ∧ k < 10 * p + a + i
        · rw [if_pos c2, if_pos (by omega)]
        · rw [if_neg c2, if_neg (by omega)]
    · rintro ⟨z, M2⟩ ⟨rfl, e2, g2⟩
      simp only at e2 g2 ⊢
      unfold b_X12_goes_9
      have ix : (10 : Int32) * nI p + (9 : Int32) = nI (10 * p + 9) := by rw [nI_lit 10, nI_lit 9, pk_mul, nI_add]
      refine zT_if1 (by rw [nI_lit 9]; exact nI_le (by omega) (by omega)) (zT_some ?_)
      show zT _ _
      rw [ix]
      refine zT_ck (zin_nI (by omega) (by omega)) (zT_lt (zT_some ⟨nI_1 p, fun k => ?_, z271.up g2⟩))
      rw [ztn_nI (by omega)]
      show zup M2 271 (10 * p + 9) 0 271 k = _
      rcases Nat.lt_or_ge k (10 * p) with q | q
      · rw [zup_k (by omega), e2, if_neg (by omega), e1, if_pos q, if_pos (by omega)]
      rcases Nat.lt_or_ge k (10 * p + 10) with q2 | q2
      · obtain ⟨j, hj, rfl⟩ : ∃ j, j < 10 ∧ k = 10 * p + j := ⟨k - 10 * p, by omega, by omega⟩
        rw [if_pos (by omega), goesF_at hp hj]
        by_cases c9 : j = 9
        · subst c9
          rw [zup_same, if_neg (by omega), if_neg (by omega)]
        · rw [zup_k (by omega), e2]
          by_cases c : j < a
          · rw [if_neg (by omega), if_pos c, e1, if_neg (by omega)]
          · rw [if_pos (by omega), if_neg c, if_pos (by omega), e1, if_neg (by omega)]
      · rw [zup_k (by omega), e2, if_neg (by omega), e1, if_neg (by omega), if_neg (by omega)]
  · rintro ⟨y, M1⟩ ⟨rfl, e1, g1⟩
    simp only at e1 g1 ⊢
    unfold b_X12_goes_2
    exact zT_if1 (by decide) (zT_some ⟨e1, g1⟩)
  · rintro M1 ⟨e1, g1⟩
    refine zT_lt (zT_some ⟨?_, z271.up g1⟩)
    funext k
    rw [show ztn (40 : Int32) = 40 from rfl]
    by_cases c : k = 40
    · subst c
      rw [zup_same, e1, if_neg (by omega)]
      unfold goesF
      rw [if_pos rfl]
    · rw [zup_k c, e1]
      by_cases c2 : k < 40
      · rw [if_pos c2]
      · rw [if_neg c2]
        unfold goesF
        rw [if_neg c, if_neg c2]
theorem X12_joins {R : zR} {M : zM} (hR : zMd R) {a g : Nat} (ha : a < 10) (hg : g < 10) (hne : a ≠ g) : zT (zloop zN (fun v => b_X12_join_93 R v.2 242 (nI a) (nI g) v.1) ((0 : Int32), M)) (fun M1 => M1 271 = joinF a g (M 271) ∧ zag (fun b _ => b = 271) M M1) := by
  have r46 : R 242 46 = 271 := hR.at rfl (by decide)
  refine zT_for 4 (fun p v => v.1 = nI p ∧ (∀ k, v.2 271 k = if k < 10 * p then joinF a g (M 271) k else M 271 k) ∧ zag (fun b _ => b = 271) M v.2) ⟨rfl, fun k => by rw [if_neg (by omega)], zag.rf⟩ (by omega) ?_ ?_
  · rintro p ⟨y, M1⟩ hp ⟨rfl, e1, g1⟩
    simp only at e1 g1 ⊢
    unfold b_X12_join_93
    have ix : (10 : Int32) * nI p + nI a = nI (10 * p + a) := by rw [nI_lit 10, pk_mul, nI_add]
    have ix2 : (10 : Int32) * nI p + nI g = nI (10 * p + g) := by rw [nI_lit 10, pk_mul, nI_add]
    rw [r46, ix, ix2]
    refine zT_if0 (by rw [nI_lit 4]; exact nI_ge hp (by omega)) (zT_ck (zin_nI (by omega) (by omega)) (zT_ck (zin_nI (by omega) (by omega)) (zT_ck (zin_nI (by omega) (by omega)) (zT_lt (zT_some ⟨nI_1 p, fun k => ?_, z271.up g1⟩)))))
    rw [ztn_nI (by omega), ztn_nI (by omega)]
    show zup M1 271 (10 * p + a) (M1 271 (10 * p + a) + M1 271 (10 * p + g)) 271 k = _
    rcases Nat.lt_or_ge k (10 * p) with q | q
    · rw [zup_k (by omega), e1, if_pos q, if_pos (by omega)]
    rcases Nat.lt_or_ge k (10 * p + 10) with q2 | q2
    · obtain ⟨j, hj, rfl⟩ : ∃ j, j < 10 ∧ k = 10 * p + j := ⟨k - 10 * p, by omega, by omega⟩
      rw [if_pos (by omega), joinF_at hp hj]
      by_cases c : j = a
      · subst c
        rw [zup_same, if_pos rfl, e1, e1, if_neg (by omega), if_neg (by omega)]
      · rw [zup_k (by omega), if_neg c, e1, if_neg (by omega)]
    · rw [zup_k (by omega), e1, if_neg (by omega), if_neg (by omega)]
  · rintro ⟨y, M1⟩ ⟨rfl, e1, g1⟩
    simp only at e1 g1 ⊢
    unfold b_X12_join_93
    refine zT_if1 (by decide) (zT_some ⟨?_, g1⟩)
    funext k
    rw [e1]
    by_cases c2 : k < 10 * 4
    · rw [if_pos c2]
    · rw [if_neg c2]
      unfold joinF
      rw [if_neg (by omega)]

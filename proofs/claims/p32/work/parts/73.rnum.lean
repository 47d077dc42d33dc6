/-! READ, on the reference's side: numbers, words, signs -/
section REF
variable {R : zR} {M M1 : zM} {L L1 : zL} {B : Nat → Nat} {n i : Nat}
theorem X12_digits (hR : zMd R) (hb : btR M B n) (hB : ∀ j, B j < 256) (hi : i < n) : zT (zloop zN (fun v => b_X12_cut_208 R M L 242 (nI i) v.1 v.2) ((0 : Int32), (0 : Int32))) (fun e => ∃ r, i + r ≤ n ∧ (∀ j, j < r → isD (B (i + j))) ∧ (i + r < n → ¬ isD (B (i + r))) ∧ e.1 = nI r ∧ e.2 = nI (vd ((seg B i r).take 4))) := by
  have n2 := hb.1
  refine zT_loop (fun m v => ∃ r, m = n - (i + r) ∧ i + r ≤ n ∧ (∀ j, j < r → isD (B (i + j))) ∧ v.1 = nI r ∧ v.2 = nI (vd ((seg B i r).take 4))) (n - i) ⟨0, rfl, by omega, fun j hj => absurd hj (by omega), rfl, rfl⟩ (by omega) ?_
  rintro m ⟨v1, v2⟩ ⟨r, rfl, h1, h2, e1, e2⟩
  dsimp only at e1 e2
  subst e1 e2
  unfold b_X12_cut_208
  dsimp only
  rw [nI_add]
  refine zT_bd (zT_eq (X12_byte hR hb (by omega)) ?_)
  by_cases c : i + r < n
  case neg =>
    rw [if_neg c]
    exact zT_bd (zT_eq (show f_X12_isDigit 0 = some 0 from by decide) (zT_if1 rfl (zT_some ⟨r, h1, h2, fun z => absurd z c, rfl, rfl⟩)))
  rw [if_pos c]
  refine zT_bd (zT_eq (X12_isD2 (hB _)) ?_)
  by_cases cl : isD (B (i + r))
  case neg =>
    rw [if_neg cl]
    exact zT_if1 rfl (zT_some ⟨r, h1, h2, fun _ => cl, rfl, rfl⟩)
  rw [if_pos cl]
  refine zT_if0 (by decide) ?_
  have all1 : ∀ j, j < r + 1 → isD (B (i + j)) := fun j hj => by
    by_cases e : j = r
    · rw [e]
      exact cl
    · exact h2 j (by omega)
  have sl := seg_len B i r
  by_cases c4 : 4 ≤ r
  · refine zT_if1 (by rw [nI_lit 4]; exact nI_le c4 (by omega)) (zT_some ⟨n - (i + (r + 1)), by omega, r + 1, rfl, by omega, all1, nI_1 r, ?_⟩)
    dsimp only
    rw [seg, take_ge (by omega)]
  · refine zT_if0 (by rw [nI_lit 4]; exact nI_ge (by omega) (by omega)) (zT_bd (zT_eq (X12_byte hR hb (by omega)) ?_))
    rw [if_pos c]
    refine zT_some ⟨n - (i + (r + 1)), by omega, r + 1, rfl, by omega, all1, nI_1 r, ?_⟩
    obtain ⟨t1, t2⟩ := take_lt (x := B (i + r)) (show (seg B i r).length < 4 by omega)
    dsimp only
    rw [seg, t1, t2, vd_s]
    have c1 := cl.1
    have m10 : (10 : Int32) * nI (vd (seg B i r)) = nI (10 * vd (seg B i r)) := (Int32.ofNat_mul 10 _).symm
    rw [m10, nI_add, nI_lit 48, nI_sub (by omega)]
    congr 1
    omega
theorem X12_key (hR : zMd R) (hw : wdOkR L) {l : List Nat} (h0 : l ≠ []) (h1 : ∀ x, x ∈ l → isL x) (h8 : l.length ≤ 7) (x1 x3 : Int32) : zT (zloop zN (fun v => b_X12_cut_146 R M L 242 x1 x3 (e27 l) v.1 v.2) ((1 : Int32), (0 : Int32))) (fun e => e = kT l) := by
  refine zT_for 20 (fun k v => v.2 = nI k ∧ ((∃ q, q < k ∧ wdR.getD q [] = l ∧ v.1 = nI (20 + q)) ∨ ((∀ q, q < k → wdR.getD q [] ≠ l) ∧ v.1 = 1))) ⟨rfl, Or.inr ⟨fun q hq => absurd hq (by omega), rfl⟩⟩ (by omega) ?_ ?_
  · rintro k ⟨y1, y2⟩ hk ⟨e, hh⟩
    dsimp only at e hh
    subst e
    unfold b_X12_cut_146
    dsimp only
    obtain ⟨w1, w2, w3⟩ := wdR_k hk
    rw [hR.at (k := 9) (b := 249) rfl (by decide), ztn_nI (by omega), hw k hk]
    refine zT_if0 (by rw [nI_lit 20]; exact nI_ge hk (by omega)) (zT_ck (zin_nI hk (by omega)) ?_)
    by_cases c : wdR.getD k [] = l
    · refine zT_if1 ((lg_cmp_eq _ _).2 (by rw [c])) (zT_some ⟨nI_1 k, Or.inl ⟨k, by omega, c, ?_⟩⟩)
      dsimp only
      rw [nI_lit 20, nI_add]
    · refine zT_if0 (fun z => c ((e27_i (by omega) (by omega) w3 h1).1 ((lg_cmp_eq _ _).1 z))) (zT_some ⟨nI_1 k, ?_⟩)
      rcases hh with ⟨q, q1, q2, q3⟩ | ⟨q1, q2⟩
      · exact Or.inl ⟨q, by omega, q2, q3⟩
      · refine Or.inr ⟨fun q hq => ?_, q2⟩
        by_cases e : q = k
        · rw [e]
          exact c
        · exact q1 q (by omega)
  · rintro ⟨y1, y2⟩ ⟨e, hh⟩
    dsimp only at e hh
    subst e
    unfold b_X12_cut_146
    refine zT_if1 (show (20 : Int32) ≤ nI 20 by decide) (zT_some ?_)
    dsimp only
    rcases hh with ⟨q, q1, q2, q3⟩ | ⟨q1, q2⟩
    · rw [q3, ← q2]
      exact (wdR_k q1).1.symm
    · rw [q2]
      obtain ⟨x, l', rfl⟩ : ∃ x l', l = x :: l' := by
        cases l with
        | nil => exact absurd rfl h0
        | cons x l' => exact ⟨x, l', rfl⟩
      have hx := h1 x (by simp)
      unfold kT
      dsimp only
      rw [if_pos hx, if_pos (by omega), wIx_noneR q1]
      show (1 : Int32) = 1
      rfl
theorem X12_sign {x : Nat} (hx : x < 256) (x1 y : Int32) {Q : Int32 × zM × zL → Prop} (h : zT (zbd2 (f_X12_token R M L 242 (kSg x) x1 (0 : Int32) (0 : Int64)) fun M10 L11 => some ((1 : Int32), M10, L11)) Q) : zT (f_X12_sign R M L 242 x1 (nI x) y) Q := by
  have ne : ∀ k : Nat, k < 256 → ¬ x = k → ¬ nI x = nI k := fun k hk hn z => hn (nI_inj (by omega) (by omega) z)
  unfold f_X12_sign j_X12_sign_43 j_X12_sign_55 j_X12_sign_65 j_X12_sign_75 j_X12_sign_85 j_X12_sign_95
  unfold kSg at h
  by_cases a1 : x = 59
  · subst a1; exact h
  by_cases a2 : x = 61
  · subst a2; exact h
  by_cases a3 : x = 40
  · subst a3; exact h
  by_cases a4 : x = 41
  · subst a4; exact h
  by_cases a5 : x = 43
  · subst a5; exact h
  by_cases a6 : x = 45
  · subst a6; exact h
  by_cases a7 : x = 42
  · subst a7; exact h
  by_cases a8 : x = 47
  · subst a8; exact h
  by_cases a9 : x = 60
  · subst a9; exact h
  rw [if_neg a1, if_neg a2, if_neg a3, if_neg a4, if_neg a5, if_neg a6, if_neg a7, if_neg a8, if_neg a9] at h
  exact zT_if0 (ne 59 (by omega) a1) (zT_if0 (ne 61 (by omega) a2) (zT_if0 (ne 40 (by omega) a3) (zT_if0 (ne 41 (by omega) a4) (zT_if0 (ne 43 (by omega) a5) (zT_if0 (ne 45 (by omega) a6) (zT_if0 (ne 42 (by omega) a7) (zT_if0 (ne 47 (by omega) a8) (zT_if0 (ne 60 (by omega) a9) h))))))))
end REF

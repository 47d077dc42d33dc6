/-! FITS, SPAN, AGO: both sides */ -/
theorem X11_isR_y {y : Int32} (h1 : ¬ y < 1) (h2 : ¬ 20 < y) : f_X11_isInRow y = some 1 := by
  unfold f_X11_isInRow
  rw [if_neg h1, if_neg h2]
theorem X11_isR_n {y : Int32} (h : y < 1 ∨ 20 < y) : f_X11_isInRow y = some 0 := by
  unfold f_X11_isInRow
  by_cases h0 : y < 1
  · rw [if_pos h0]
  · rw [if_neg h0, if_pos (h.resolve_left h0)]
theorem goP_0 {n B : Nat} {ru : zRu} {W : Nat → Int32} {kn : Nat → Int32} : goP n B ru W 0 kn (fun _ => 0) = fun w => fitB n kn (payW n ru (baseF n B w W)) := by
  funext w
  unfold goP
  rw [boxB_t.2 (fun i _ => Nat.zero_le _), Bool.true_and]
  have : kkF B 0 kn (fun _ => 0) w = kn := by
    funext i
    unfold kkF
    rw [if_pos rfl]
  rw [this]
theorem knW_eq {M M1 : zM} (h1 : ∀ i, M1 208 i = M 208 i) (h2 : ∀ i, M1 209 i = M 209 i) : ∀ k, knW M1 k = knW M k
  | 0 => rfl
  | k + 1 => by
    funext j
    show (if M1 208 k = nI j then M1 209 k else knW M1 k j) = (if M 208 k = nI j then M 209 k else knW M k j)
    rw [h1, h2, knW_eq h1 h2 k]
section TRY
variable {R : zR} {M : zM} {ru : zRu} {q l n T S u x : Nat}
theorem zFits (h : zSt R M ru q l n T S u x) (hT : T + 3100000 < 2147483648) (x1 x2 : Int32) : zAns R M ru q l n T S u x (f_X11_fits R M 2 x1 x2) (fun M1 => f_X12_fits R M1 242 x1 x2) := by
  have hn := h.n10
  obtain ⟨t, t1, t2, t3, t4⟩ := h.to
  have x7 : R 2 7 = 207 := h.xr.2.2.2.2.2.2.2
  have m4 : M 13 4 = nI n := h.rw0.2.1
  unfold zAns f_X11_fits f_X12_fits
  rw [h.x2, h.q8, x7, t2, m4]
  by_cases c1 : x1 < 1 ∨ 20 < x1
  · exact zT_bd (zT_eq (X11_isR_n c1) (zT_if1 rfl (zT_some ⟨zag.rf, zT_bd (zT_eq (in_n c1) (zT_if1 rfl (zT_some ⟨rfl, zag.rf⟩)))⟩)))
  have iny : f_X12_in x1 (1 : Int32) (20 : Int32) = some 1 := in_y (fun q => c1 (Or.inl q)) (fun q => c1 (Or.inr q))
  refine zT_bd (zT_eq (X11_isR_y (fun q => c1 (Or.inl q)) (fun q => c1 (Or.inr q))) (zT_if0 (by decide) ?_))
  obtain ⟨most, hm, rfl⟩ := nI_upto (e := 20) (fun q => c1 (Or.inl (Int32.lt_trans q (by decide)))) (i_le_of (fun q => c1 (Or.inr q))) (by omega)
  have hm1 : 1 ≤ most := by
    rcases Nat.eq_zero_or_pos most with q | q
    · exact absurd (Or.inl (by rw [q]; decide)) c1
    · exact q
  have no : x2 < 0 ∨ nI t < x2 → zT (zbd (f_X12_in (nI most) (1 : Int32) (20 : Int32)) fun r1 => if r1 = 0 then some ((-1 : Int32), M) else zbd (f_X12_in x2 (0 : Int32) (M 242 53)) fun r4 => if r4 = 0 then some ((-1 : Int32), M) else zbd2 (f_X12_fillsFits R M 242 (nI most) x2) fun r7 M8 => some (r7, M8)) (fun p1 => p1.1 = -1 ∧ zag zsr M p1.2) := fun hx => zT_bd (zT_eq iny (zT_if0 (by decide) (zT_bd (zT_eq (in_n (by rw [t3]; exact hx)) (zT_if1 rfl (zT_some ⟨rfl, zag.rf⟩))))))
  by_cases c2 : x2 < 0
  · exact zT_if1 c2 (zT_some ⟨zag.rf, no (Or.inl c2)⟩)
  refine zT_if0 c2 ?_
  by_cases c3 : x2 ≤ nI t
  rotate_left
  · exact zT_if0 c3 (zT_some ⟨zag.rf, no (Or.inr (i_lt_of c3))⟩)
  obtain ⟨k, hk, rfl⟩ := nI_upto (e := t) c2 c3 (by omega)
  have hkM : nI k ≤ M 242 53 := by rw [t3]; exact c3
  obtain ⟨P, hP⟩ : ∃ P : Nat → Bool, P = fun w => fitB n (knW M k) (payW n ru (baseF n (most + 1) w (rowF M))) := ⟨_, rfl⟩
  -- the reference, from any scratch
  have rf : ∀ M1 : zM, zag zsk M M1 → zT (zbd (f_X12_in (nI most) (1 : Int32) (20 : Int32)) fun r1 => if r1 = 0 then some ((-1 : Int32), M1) else zbd (f_X12_in (nI k) (0 : Int32) (M1 242 53)) fun r4 => if r4 = 0 then some ((-1 : Int32), M1) else zbd2 (f_X12_fillsFits R M1 242 (nI most) (nI k)) fun r7 M8 => some (r7, M8)) (fun p1 => (((most + 1) ^ n ≤ 200000 ∧ p1.1 = nI (aggF P (fun _ => 0) 100 ((most + 1) ^ n)).1) ∨ (¬ (most + 1) ^ n ≤ 200000 ∧ p1.1 = -2)) ∧ zag zsr M1 p1.2) := by
    intro M1 g1
    have h1 := h.sc (zsk.sc g1)
    have c53 : M1 242 53 = nI t := by rw [g1 242 53 (by unfold zsk; omega)]; exact t3
    have ek : knW M1 k = knW M k := knW_eq (fun i => g1 208 i (by unfold zsk; omega)) (fun i => g1 209 i (by unfold zsk; omega)) k
    refine zT_bd (zT_eq iny (zT_if0 (by decide) (zT_bd (zT_eq (in_y (nI_pos (by omega)) (by rw [c53]; exact nI_nlt (by omega) (by omega))) (zT_if0 (by decide) (zT_bd2 (zT_w (X12_fills h1 hT hm hm1 (by rw [c53]; exact c3) (by omega) (P := P) (by rw [hP, ek, zsk.rws g1])) ?_)))))))
    rintro ⟨y, M2⟩ ⟨e, g2⟩
    refine zT_some ⟨?_, g2⟩
    rcases e with ⟨a, b, -⟩ | ⟨a, b⟩
    · exact Or.inl ⟨a, b⟩
    · exact Or.inr ⟨a, b⟩
  refine zT_if1 c3 (zT_bd (zT_w (X10_rowsUp hm hn) ?_))
  intro y hy
  by_cases hN : (most + 1) ^ n ≤ 200000
  rotate_left
  · refine zT_if0 (fun q => hN (hy.1 q)) (zT_some ⟨zag.rf, zT_w (rf M zag.rf) ?_⟩)
    rintro ⟨z, M2⟩ ⟨e, g2⟩
    rcases e with ⟨a, -⟩ | ⟨-, b⟩
    · exact absurd a hN
    · exact ⟨b, g2⟩
  refine zT_if1 (hy.2 hN) (zT_bd (zT_w (X10_goFits h (hh := 0) hm hm1 hN (by omega) hkM (by omega) rfl) ?_))
  rintro M1 ⟨a8, -, g1⟩
  refine zT_some ⟨g1, zT_w (rf M1 g1) ?_⟩
  rintro ⟨z, M2⟩ ⟨e, g2⟩
  rcases e with ⟨-, b⟩ | ⟨a, -⟩
  rotate_left
  · exact absurd hN a
  refine ⟨?_, g2⟩
  show z = M1 207 8
  rw [a8, goP_0, ← hP, (aggF_1 (P := P) (d' := fun _ => 0) (mi' := 100) _).1]
  exact b
theorem zSpan (h : zSt R M ru q l n T S u x) (hT : T + 3100000 < 2147483648) (x1 x2 x3 : Int32) : zAns R M ru q l n T S u x (f_X11_span R M 2 x1 x2 x3) (fun M1 => f_X12_span R M1 242 x1 x2 x3) := by
  have hn := h.n10
  obtain ⟨t, t1, t2, t3, t4⟩ := h.to
  have x7 : R 2 7 = 207 := h.xr.2.2.2.2.2.2.2
  have m4 : M 13 4 = nI n := h.rw0.2.1
  have r57 : R 242 57 = 279 := h.md.at rfl (by decide)
  have r58 : R 242 58 = 280 := h.md.at rfl (by decide)
  unfold zAns f_X11_span f_X12_span
  rw [h.x2, h.q8, x7, t2, m4, r57, r58]
  by_cases c1 : x1 < 1 ∨ 20 < x1
  · exact zT_bd (zT_eq (X11_isR_n c1) (zT_if1 rfl (zT_some ⟨zag.rf, zT_bd (zT_eq (in_n c1) (zT_if1 rfl (zT_some ⟨rfl, zag.rf⟩)))⟩)))
  have iny : f_X12_in x1 (1 : Int32) (20 : Int32) = some 1 := in_y (fun q => c1 (Or.inl q)) (fun q => c1 (Or.inr q))
  refine zT_bd (zT_eq (X11_isR_y (fun q => c1 (Or.inl q)) (fun q => c1 (Or.inr q))) (zT_if0 (by decide) ?_))
  obtain ⟨most, hm, rfl⟩ := nI_upto (e := 20) (fun q => c1 (Or.inl (Int32.lt_trans q (by decide)))) (i_le_of (fun q => c1 (Or.inr q))) (by omega)
  have hm1 : 1 ≤ most := by
    rcases Nat.eq_zero_or_pos most with q | q
    · exact absurd (Or.inl (by rw [q]; decide)) c1
    · exact q
  have no : (x2 < 0 ∨ nI t < x2) ∨ (x3 < 0 ∨ nI n ≤ x3) → zT (zbd (f_X12_in (nI most) (1 : Int32) (20 : Int32)) fun r1 => if r1 = 0 then some ((-1 : Int32), M) else zbd (f_X12_in x2 (0 : Int32) (M 242 53)) fun r4 => if r4 = 0 then some ((-1 : Int32), M) else zbd (f_X12_isHouse R M 242 x3) fun r7 => if r7 = 0 then some ((-1 : Int32), M) else zbd2 (f_X12_fillsFits R M 242 (nI most) x2) fun r10 M11 => if (1 : Int32) ≤ r10 then (zck (zin x3 10) <| zck (zin x3 10) <| some ((((100 : Int32) * (M11 279 (ztn x3))) + (M11 280 (ztn x3))), M11)) else some ((-2 : Int32), M11)) (fun p1 => p1.1 = -1 ∧ zag zsr M p1.2) := fun hx => by
    refine zT_bd (zT_eq iny (zT_if0 (by decide) (zT_bd ?_)))
    rw [t3]
    by_cases c : x2 < 0 ∨ nI t < x2
    · exact zT_eq (in_n c) (zT_if1 rfl (zT_some ⟨rfl, zag.rf⟩))
    · exact zT_eq (in_y (fun q => c (Or.inl q)) (fun q => c (Or.inr q))) (zT_if0 (by decide) (zT_bd (zT_eq (zHn h.md hn h.n40 (hx.resolve_left c)) (zT_if1 rfl (zT_some ⟨rfl, zag.rf⟩)))))
  by_cases c2 : x2 < 0
  · exact zT_if1 c2 (zT_some ⟨zag.rf, no (Or.inl (Or.inl c2))⟩)
  refine zT_if0 c2 ?_
  by_cases c3 : nI t < x2
  · exact zT_if1 c3 (zT_some ⟨zag.rf, no (Or.inl (Or.inr c3))⟩)
  obtain ⟨k, hk, rfl⟩ := nI_upto (e := t) c2 (i_le_of c3) (by omega)
  refine zT_if0 c3 ?_
  rcases nI_cases x3 n (by omega) with ⟨a, ha, rfl⟩ | hx3
  rotate_left
  · exact zT_bd (zT_eq (hz_no h.rw0 hx3) (zT_if1 rfl (zT_some ⟨zag.rf, no (Or.inr hx3)⟩)))
  refine zT_bd (zT_eq (hz_yes h.rw0 ha) (zT_if0 (by decide) (zT_bd (zT_w (X10_rowsUp hm hn) ?_))))
  have hkM : nI k ≤ M 242 53 := by rw [t3]; exact i_le_of c3
  obtain ⟨P, hP⟩ : ∃ P : Nat → Bool, P = fun w => fitB n (knW M k) (payW n ru (baseF n (most + 1) w (rowF M))) := ⟨_, rfl⟩
  obtain ⟨A, hA⟩ : ∃ A, A = aggF P (fun w => dig (most + 1) w a) 100 ((most + 1) ^ n) := ⟨_, rfl⟩
  have hz := zin_nI (k := a) (n := 10) (by omega) (by omega)
  have Acnt : A.1 ≤ (most + 1) ^ n := by rw [hA]; exact (aggF_1 (P := P) (d := fun w => dig (most + 1) w a) (d' := fun _ => 0) (mi := 100) (mi' := 100) _).2
  have rf : ∀ M1 : zM, zag zsk M M1 → zT (zbd (f_X12_in (nI most) (1 : Int32) (20 : Int32)) fun r1 => if r1 = 0 then some ((-1 : Int32), M1) else zbd (f_X12_in (nI k) (0 : Int32) (M1 242 53)) fun r4 => if r4 = 0 then some ((-1 : Int32), M1) else zbd (f_X12_isHouse R M1 242 (nI a)) fun r7 => if r7 = 0 then some ((-1 : Int32), M1) else zbd2 (f_X12_fillsFits R M1 242 (nI most) (nI k)) fun r10 M11 => if (1 : Int32) ≤ r10 then (zck (zin (nI a) 10) <| zck (zin (nI a) 10) <| some ((((100 : Int32) * (M11 279 (ztn (nI a)))) + (M11 280 (ztn (nI a)))), M11)) else some ((-2 : Int32), M11)) (fun p1 => p1.1 = (if (most + 1) ^ n ≤ 200000 ∧ 1 ≤ A.1 then 100 * nI A.2.1 + nI A.2.2 else -2) ∧ zag zsr M1 p1.2) := by
    intro M1 g1
    have h1 := h.sc (zsk.sc g1)
    have c53 : M1 242 53 = nI t := by rw [g1 242 53 (by unfold zsk; omega)]; exact t3
    have ek : knW M1 k = knW M k := knW_eq (fun i => g1 208 i (by unfold zsk; omega)) (fun i => g1 209 i (by unfold zsk; omega)) k
    refine zT_bd (zT_eq iny (zT_if0 (by decide) (zT_bd (zT_eq (in_y (nI_pos (by omega)) (by rw [c53]; exact c3)) (zT_if0 (by decide) (zT_bd (zT_eq (zHy h.md hn h1.n40 ha) (zT_if0 (by decide) (zT_bd2 (zT_w (X12_fills h1 hT hm hm1 (by rw [c53]; exact i_le_of c3) (by omega) (P := P) (by rw [hP, ek, zsk.rws g1])) ?_))))))))))
    rintro ⟨y, M2⟩ ⟨e, g2⟩
    simp only at e g2 ⊢
    rcases e with ⟨hN, b, d⟩ | ⟨hN, b⟩
    · have ec : (aggF P (fun _ => 0) 100 ((most + 1) ^ n)).1 = A.1 := by rw [hA]; exact (aggF_1 (P := P) _).1
      rw [b, ec]
      obtain ⟨d1, d2⟩ := d a ha
      by_cases c : 1 ≤ A.1
      · refine zT_if1 (by rw [nI_lit 1]; exact nI_le c (by omega)) (zT_ck hz (zT_ck hz (zT_some ⟨?_, g2⟩)))
        rw [ztn_nI (by omega), if_pos ⟨hN, c⟩, d1, d2, hA]
      · refine zT_if0 (by rw [nI_lit 1]; exact nI_ge (by omega) (by omega)) (zT_some ⟨?_, g2⟩)
        rw [if_neg (fun q => c q.2)]
    · rw [b]
      refine zT_if0 (by decide) (zT_some ⟨?_, g2⟩)
      rw [if_neg (fun q => hN q.1)]
  intro y hy
  by_cases hN : (most + 1) ^ n ≤ 200000
  rotate_left
  · refine zT_if0 (fun q => hN (hy.1 q)) (zT_some ⟨zag.rf, zT_w (rf M zag.rf) ?_⟩)
    rintro ⟨z, M2⟩ ⟨e, g2⟩
    rw [if_neg (fun q => hN q.1)] at e
    exact ⟨e, g2⟩
  refine zT_if1 (hy.2 hN) (zT_bd (zT_w (X10_goFits h (hh := a) hm hm1 hN (by omega) hkM (by omega) rfl) ?_))
  rintro M1 ⟨a8, a9, g1⟩
  obtain ⟨a9, a10⟩ := a9 ha
  rw [goP_0, ← hP] at a8 a9 a10
  have e1 : (aggF P (fun k => dig (most + 1) k a) most ((most + 1) ^ n)).1 = A.1 := by rw [hA]; exact (aggF_1 (P := P) _).1
  rw [e1] at a8
  rw [a8]
  have bb := aggF_b (P := P) (d := fun w => dig (most + 1) w a) (mi := most) (mi' := 100) (t := most) (fun k => by have := dig_lt (B := most + 1) (k := k) (i := a) (by omega); show dig (most + 1) k a ≤ most; omega) (Nat.le_refl _) (by omega) ((most + 1) ^ n)
  rw [e1, ← hA] at bb
  refine zT_if (fun c => zT_some ⟨g1, zT_w (rf M1 g1) ?_⟩) (fun c => zT_some ⟨g1, zT_w (rf M1 g1) ?_⟩)
  · rintro ⟨z, M2⟩ ⟨e, g2⟩
    have := nI_0of (by omega) c
    rw [if_neg (fun q => by omega)] at e
    exact ⟨e, g2⟩
  · rintro ⟨z, M2⟩ ⟨e, g2⟩
    have c0 : A.1 ≠ 0 := fun q => c (by rw [q]; rfl)
    rw [if_pos ⟨hN, by omega⟩] at e
    refine ⟨?_, g2⟩
    show z = 100 * M1 207 9 + M1 207 10
    rw [show z = _ from e, a9, a10, bb.2.1]
    rcases bb.1 with ⟨q, -, -⟩ | ⟨-, q, -⟩
    · exact absurd q c0
    · rw [q]
theorem eqB_t {n : Nat} {f g : Nat → Int32} : (seekF (fun i => !(decide (f i = g i))) n 0).isNone = true ↔ ∀ i, i < n → f i = g i := by
  rw [none_iff]
  exact ⟨fun h i hi => by have := h i hi; simpa using this, fun h i hi => by simp [h i hi]⟩
/-- what is paid from a row is no more than what it has -/
theorem payW_le {W : Nat → Int32} {n T S B k : Nat} {ru : zRu} (h : zGd n T S W) (hT : T + 200 < 2147483648) (hB : 0 < B) (hB2 : B ≤ 21) {i : Nat} (hi : i < n) : ∃ e, e ≤ dig B k i ∧ payW n ru (baseF n B k W) i = nI e := by
  have hn := h.1
  have hb := h.base (k := k) hB hB2
  have gs : zGd n (T + 200) S (stF n ru (baseF n B k W) i) := by
    unfold stF
    split
    · exact hb
    · exact hb.GturnsS (by omega) i (by omega)
  obtain ⟨d, e, hd, he, he2, ed⟩ := wantF_nI (ru := ru) gs (by omega) hi
  have dl := dig_lt (B := B) (k := k) (i := i) hB
  have se : shF (stF n ru (baseF n B k W) i) i = nI (dig B k i) := by
    have b0 : baseF n B k W i = nI (dig B k i) := by unfold baseF; rw [if_pos hi]
    have b1 : baseF n B k W (10 + i) = nI 0 := by unfold baseF; rw [if_neg (by omega), if_pos (by omega)]; rfl
    have c0 : stF n ru (baseF n B k W) i i = baseF n B k W i := by
      unfold stF
      split
      · rfl
      · have := (turnsS_end (ru := ru) (w := baseF n B k W) hn i (by omega) i hi).1
        rw [if_neg (by omega)] at this
        exact this
    have c1 : stF n ru (baseF n B k W) i (10 + i) = baseF n B k W (10 + i) := by
      unfold stF
      split
      · rfl
      · have : ∀ m, m ≤ n → turnsS n ru 0 (baseF n B k W) m (10 + i) = baseF n B k W (10 + i) := by
          intro m
          induction m with
          | zero => intro _; rfl
          | succ m ih =>
            intro hm
            show payF (turnsS n ru 0 (baseF n B k W) m) ((0 + m) % n) _ (10 + i) = _
            rw [Nat.zero_add, Nat.mod_eq_of_lt (by omega : m < n), payF_n (by omega) (by omega) (by omega) (by omega)]
            exact ih (by omega)
        exact this i (by omega)
    unfold shF
    rw [c0, c1, b0, b1, nI_sub (by omega), Nat.sub_zero]
  have : e = dig B k i := nI_inj (by omega) (by omega) (he.symm.trans se)
  exact ⟨d, by omega, ed⟩
theorem zAgo (h : zSt R M ru q l n T S u x) (hT : T + 3100000 < 2147483648) (x1 : Int32) : zAns R M ru q l n T S u x (f_X11_ago R M 2 x1) (fun M1 => f_X12_ago R M1 242 x1) := by
  have hn := h.n10
  have x7 : R 2 7 = 207 := h.xr.2.2.2.2.2.2.2
  have m4 : M 13 4 = nI n := h.rw0.2.1
  obtain ⟨_, _, _, _, _, _, _, _, t0, t1, t2, t3, t4, t5, t6⟩ := id h.rt
  unfold zAns f_X11_ago f_X12_ago
  rw [h.x2, h.q8, x7, m4]
  by_cases c1 : x1 < 1 ∨ 20 < x1
  · exact zT_bd (zT_eq (X11_isR_n c1) (zT_if1 rfl (zT_some ⟨zag.rf, zT_bd (zT_eq (in_n c1) (zT_if1 rfl (zT_some ⟨rfl, zag.rf⟩)))⟩)))
  have iny : f_X12_in x1 (1 : Int32) (20 : Int32) = some 1 := in_y (fun q => c1 (Or.inl q)) (fun q => c1 (Or.inr q))
  refine zT_bd (zT_eq (X11_isR_y (fun q => c1 (Or.inl q)) (fun q => c1 (Or.inr q))) (zT_if0 (by decide) ?_))
  obtain ⟨most, hm, rfl⟩ := nI_upto (e := 20) (fun q => c1 (Or.inl (Int32.lt_trans q (by decide)))) (i_le_of (fun q => c1 (Or.inr q))) (by omega)
  have hm1 : 1 ≤ most := by
    rcases Nat.eq_zero_or_pos most with q | q
    · exact absurd (Or.inl (by rw [q]; decide)) c1
    · exact q
  obtain ⟨B, hB⟩ : ∃ B, B = most + 1 := ⟨_, rfl⟩
  obtain ⟨_, _, _, lo, qq, pot, hlo, _, hsum⟩ := id h.gd
  have ll : ∀ i, i < n → lo i < 2147483648 := fun i hi => by have := sumN_le (p := lo) n i hi; omega
  obtain ⟨P, hP⟩ : ∃ P : Nat → Bool, P = fun w => (seekF (fun i => !(decide (payAllF n ru (ruT ru) 0 (baseF n B w (rowF M)) i = rowF M i))) n 0).isNone := ⟨_, rfl⟩
  have PE : ∀ w, P w = goP n B ru (rowF M) 1 (fun _ => -1) lo w := by
    intro w
    have key : P w = true ↔ goP n B ru (rowF M) 1 (fun _ => -1) lo w = true := by
      rw [hP]
      dsimp only
      rw [eqB_t]
      unfold goP
      rw [Bool.and_eq_true, boxB_t, fitB_t]
      constructor
      · intro hh
        have each : ∀ i, i < n → lo i ≤ dig B w i ∧ nI (dig B w i) - nI (lo i) = payW n ru (baseF n B w (rowF M)) i := by
          intro i hi
          obtain ⟨e, he, ee⟩ := payW_le (ru := ru) (k := w) h.gd (by omega) (by omega : 0 < B) (by omega) hi
          have hd := dig_lt (B := B) (k := w) (i := i) (by omega)
          have e1 := hh i hi
          rw [(payAll_end hn hi).1, ee, (hlo i hi).1] at e1
          have b0 : baseF n B w (rowF M) i = nI (dig B w i) := by unfold baseF; rw [if_pos hi]
          rw [b0, nI_sub he] at e1
          have e2 := nI_inj (by omega) (ll i hi) e1
          refine ⟨by omega, ?_⟩
          rw [ee, nI_sub (by omega), show dig B w i - lo i = e by omega]
        refine ⟨fun i hi => (each i hi).1, fun i hi => Or.inr ?_⟩
        unfold kkF
        rw [if_neg (by decide)]
        exact (each i hi).2
      · rintro ⟨hb, hf⟩ i hi
        have hd := dig_lt (B := B) (k := w) (i := i) (by omega)
        have bi := hb i hi
        have fi := hf i hi
        unfold kkF at fi
        rw [if_neg (by decide), nI_sub bi] at fi
        rcases fi with c | c
        · exfalso
          have : (0 : Int32) ≤ -1 := by rw [← c]; exact nI_pos' (by omega)
          exact absurd this (by decide)
        · have b0 : baseF n B w (rowF M) i = nI (dig B w i) := by unfold baseF; rw [if_pos hi]
          rw [(payAll_end hn hi).1, ← c, b0, (hlo i hi).1, nI_sub (by omega), show dig B w i - (dig B w i - lo i) = lo i by omega]
    cases a : P w with
    | true => exact (key.1 a).symm
    | false =>
      cases b : goP n B ru (rowF M) 1 (fun _ => -1) lo w with
      | false => rfl
      | true =>
        rw [key.2 b] at a
        exact absurd a (by decide)
  -- the reference
  have rf : ∀ M1 : zM, zag zsk M M1 → zT (zbd (f_X12_in (nI most) (1 : Int32) (20 : Int32)) fun r1 => if r1 = 0 then some ((-1 : Int32), M1) else zbd (f_X12_rowsOf R M1 242 (nI most)) fun r4 => if 0 ≤ r4 then (zbd (zloop zN (fun v => b_X12_ago_30 R v.2.2 242 (nI most) r4 v.1 v.2.1) ((0 : Int32), (0 : Int32), M1)) fun e20 => some (e20.1, e20.2)) else some ((-2 : Int32), M1)) (fun p1 => (((most + 1) ^ n ≤ 200000 ∧ p1.1 = nI (aggF P (fun _ => 0) 100 ((most + 1) ^ n)).1) ∨ (¬ (most + 1) ^ n ≤ 200000 ∧ p1.1 = -2)) ∧ zag zsr M1 p1.2) := by
    intro M1 g1
    have h1 := h.sc (zsk.sc g1)
    have f1 := zsk.rws g1
    refine zT_bd (zT_eq iny (zT_if0 (by decide) (zT_bd (zT_w (X12_rowsOf h1 hm) ?_))))
    rintro y (⟨hN, rfl⟩ | ⟨hN, rfl⟩)
    rotate_left
    · exact zT_if0 (by decide) (zT_some ⟨Or.inr ⟨hN, rfl⟩, zag.rf⟩)
    refine zT_if1 (nI_pos' (by omega)) (zT_bd ?_)
    rw [← hB] at hN ⊢
    refine zT_w (Q := fun e : Int32 × zM => e.1 = nI (aggF P (fun _ => 0) 100 (B ^ n)).1 ∧ zag zsr M1 e.2) (zT_for (B ^ n) (fun w v => v.1 = nI (aggF P (fun _ => 0) 100 w).1 ∧ v.2.1 = nI w ∧ zag zsr M1 v.2.2 ∧ rowF v.2.2 = rowF M) ⟨rfl, rfl, zag.rf, f1⟩ (by omega) ?_ ?_) ?_
    · rintro w ⟨y, z, M3⟩ hw ⟨rfl, rfl, g3, f3⟩
      simp only at g3 f3 ⊢
      have h3 := h1.sc (zsr.sc g3)
      unfold b_X12_ago_30
      refine zT_if0 (nI_ge hw (by omega)) (zT_bd (zT_w (X12_takesRow h3 hm (k := w) (by omega)) ?_))
      rintro M4 ⟨e4, g4⟩
      rw [f3, ← hB] at e4
      have f4 : rowF M4 = rowF M := rowF_of f3 (g4.row (fun k => by omega)) (fun j hj => by rw [e4]; unfold baseF; rw [if_neg (by omega), if_neg (by omega)])
      have g34 := g3.tr (z271.sr g4)
      have h4 := h1.sc (zsr.sc g34)
      have hl := h.ll
      refine zT_ck (by rw [h4.l18]; exact zin_nI hl (by omega)) (zT_bd ?_)
      refine zT_w (X12_payRow h4 hT hm (k := w) (by rw [e4, f4, hB])) ?_
      rintro M5 ⟨e5, g5⟩
      rw [f4, ← hB] at e5
      have g35 := g34.tr (mrA.sr g5)
      have hi5 : ∀ j, 60 ≤ j → M5 271 j = rowF M j := fun j hj => by
        rw [e5, payAllF_fx hn (Or.inr hj)]
        unfold baseF
        rw [if_neg (by omega), if_neg (by omega)]
      have f5 : rowF M5 = rowF M := rowF_of f4 (g5.row (fun k => by unfold mrA tlA; omega)) hi5
      have h5 := h1.sc (zsr.sc g35)
      have f40 : M5 271 (ztn (40 : Int32)) = nI n := by
        show M5 271 40 = nI n
        rw [e5]
        exact ((h.gd.base (B := B) (k := w) (by omega) (by omega)).payAll (by omega)).2.1
      have r270 : ∀ i, i < 60 → M5 270 i = rowF M i := fun i hi => by
        rw [← f5]
        exact (rowF60 M5 i hi).symm
      have a1 := (aggF_1 (P := P) (d := fun _ => 0) (d' := fun _ => 0) (mi := 100) (mi' := 100) w).2
      have agg1 : aggF P (fun _ => 0) 100 (w + 1) = if P w = true then ((aggF P (fun _ => 0) 100 w).1 + 1, if 0 < (aggF P (fun _ => 0) 100 w).2.1 then 0 else (aggF P (fun _ => 0) 100 w).2.1, if (aggF P (fun _ => 0) 100 w).2.2 < 0 then 0 else (aggF P (fun _ => 0) 100 w).2.2) else aggF P (fun _ => 0) 100 w := rfl
      have fit : zT (zloop zN (fun v => b_X12_ago_63 R M5 242 (nI most) (nI (B ^ n)) (nI (aggF P (fun _ => 0) 100 w).1) (nI w) v.1 v.2) ((1 : Int32), (0 : Int32))) (fun e => e = if P w = true then 1 else 0) := by
        refine zT_for n (fun i v => v.2 = nI i ∧ ((v.1 = 1 ∧ ∀ j, j < i → payAllF n ru (ruT ru) 0 (baseF n B w (rowF M)) j = rowF M j) ∨ (v.1 = 0 ∧ P w = false))) ⟨rfl, Or.inl ⟨rfl, fun j hj => absurd hj (by omega)⟩⟩ (by omega) ?_ ?_
        · rintro i ⟨y, z⟩ hi ⟨rfl, hc⟩
          unfold b_X12_ago_63
          simp only at hc ⊢
          have hz := zin_nI (k := i) (n := 60) (by omega) (by omega)
          rw [h.r45, h.r46, f40, ztn_nI (by omega), e5, r270 i (by omega)]
          refine zT_if0 (nI_ge hi (by omega)) ?_
          rcases hc with ⟨rfl, hc⟩ | ⟨rfl, hc⟩
          · refine zT_if0 (by decide) (zT_ck hz (zT_ck hz (zT_if (fun e => zT_some ⟨nI_1 _, Or.inl ⟨rfl, fun j hj => ?_⟩⟩) (fun e => zT_some ⟨nI_1 _, Or.inr ⟨rfl, ?_⟩⟩))))
            · by_cases c : j = i
              · subst c; exact e
              · exact hc j (by omega)
            · cases hp : P w with
              | false => rfl
              | true =>
                rw [hP] at hp
                exact absurd (eqB_t.1 hp i hi) e
          · exact zT_if1 rfl (zT_some ⟨nI_1 _, Or.inr ⟨rfl, hc⟩⟩)
        · rintro ⟨y, z⟩ ⟨rfl, hc⟩
          unfold b_X12_ago_63
          simp only at hc ⊢
          rw [h.r46, f40]
          refine zT_if1 (nI_le (Nat.le_refl _) (by omega)) (zT_some ?_)
          rcases hc with ⟨rfl, hc⟩ | ⟨rfl, hc⟩
          · have hp : P w = true := by
              rw [hP]
              exact eqB_t.2 hc
            rw [hp]
            rfl
          · rw [hc]
            rfl
      refine zT_bd (zT_w fit ?_)
      rintro e rfl
      by_cases hp : P w = true
      · rw [if_pos hp] at agg1 ⊢
        refine zT_if0 (by decide) (zT_some ⟨?_, nI_1 _, g35, f5⟩)
        rw [agg1]
        exact nI_1 _
      · rw [if_neg hp] at agg1 ⊢
        refine zT_if1 rfl (zT_some ⟨?_, nI_1 _, g35, f5⟩)
        rw [agg1]
    · rintro ⟨y, z, M3⟩ ⟨rfl, rfl, g3, f3⟩
      simp only at g3 ⊢
      unfold b_X12_ago_30
      exact zT_if1 (nI_le (Nat.le_refl _) (by omega)) (zT_some ⟨rfl, g3⟩)
    · rintro ⟨y, M3⟩ ⟨rfl, g3⟩
      exact zT_some ⟨Or.inl ⟨hN, rfl⟩, g3⟩
  refine zT_bd (zT_w (X10_rowsUp hm hn) ?_)
  intro y hy
  by_cases hN : (most + 1) ^ n ≤ 200000
  rotate_left
  · refine zT_if0 (fun q => hN (hy.1 q)) (zT_some ⟨zag.rf, zT_w (rf M zag.rf) ?_⟩)
    rintro ⟨z, M2⟩ ⟨e, g2⟩
    rcases e with ⟨a, -⟩ | ⟨-, b⟩
    · exact absurd a hN
    · exact ⟨b, g2⟩
  refine zT_if1 (hy.2 hN) (zT_bd ?_)
  have cls : zT (f_X10_goThroughAgo R M 207 q 13 (nI most)) (fun M1 => M1 207 8 = nI (aggF P (fun _ => 0) 100 ((most + 1) ^ n)).1 ∧ zag zsk M M1) := by
    unfold f_X10_goThroughAgo
    rw [m4]
    refine zT_lt (zT_bd ?_)
    refine zT_w (Q := fun M1 : zM => M1 207 7 = nI n - 1 ∧ (∀ i, i < n → M1 211 i = nI (lo i)) ∧ zag (fun b k => b = 211 ∨ (b = 207 ∧ k = 7)) M M1) (zT_for n (fun i v => v.1 = nI i ∧ v.2 207 7 = nI n - 1 ∧ (∀ j, j < i → v.2 211 j = nI (lo j)) ∧ zag (fun b k => b = 211 ∨ (b = 207 ∧ k = 7)) M v.2) ⟨rfl, by dsimp only; exact zup_same, fun j hj => absurd hj (by omega), zag.rf.up (by omega)⟩ (by omega) ?_ ?_) ?_
    · rintro i ⟨y, M1⟩ hi ⟨rfl, e1, d1, g1⟩
      simp only at e1 d1 g1 ⊢
      have hz := zin_nI (k := i) (n := 10) (by omega) (by omega)
      have h1 : RW M1 13 n (rowF M) := h.row.cells (fun a k q1 q2 => g1 a k (by omega))
      unfold b_X10_goThroughAgo_13
      rw [t3, h.r13.1, ztn_nI (by omega), (h1.2.2.2.2.2.2 i hi).1, (hlo i hi).1]
      refine zT_if0 (by rw [nI_lit 10]; exact nI_ge (by omega) (by omega)) (zT_bd (zT_eq (hz_yes h1 hi) (zT_if0 (by decide) (zT_ck hz (zT_ck hz (zT_lt (zT_some ⟨nI_1 _, ?_, fun j hj => ?_, g1.up (by omega)⟩)))))))
      · dsimp only
        rw [zup_a (by omega)]
        exact e1
      · dsimp only
        by_cases c : j = i
        · subst c
          exact zup_same
        · rw [zup_k c]
          exact d1 j (by omega)
    · rintro ⟨y, M1⟩ ⟨rfl, e1, d1, g1⟩
      simp only at e1 d1 g1 ⊢
      have h1 : RW M1 13 n (rowF M) := h.row.cells (fun a k q1 q2 => g1 a k (by omega))
      unfold b_X10_goThroughAgo_13
      exact zT_if (fun _ => zT_some ⟨e1, d1, g1⟩) (fun _ => zT_bd (zT_eq (hz_end h1) (zT_if1 rfl (zT_some ⟨e1, d1, g1⟩))))
    rintro M1 ⟨e1, d1, g1⟩
    have gk : zag zsk M M1 := g1.mo (fun b k e => by unfold zsk; omega)
    have h1 := h.sc (zsk.sc gk)
    have f1 := zsk.rws gk
    refine zT_bd (zT_w (X10_go h1 (hh := 0) (x5 := 1) (lo := lo) (kn := fun _ => -1) (L := n) hm hm1 hN (by omega) (fun i hi => ⟨d1 i hi, ll i hi⟩) (fun q => absurd q (by decide)) (Nat.le_refl _) (fun i hi => by rw [e1, Int32.sub_eq_add_neg]; exact nI_dec1 hn hi) (fun q => absurd q (by decide)) (fun _ => rfl) rfl) ?_)
    rintro M2 ⟨a8, -, g2⟩
    refine zT_some ⟨?_, gk.tr g2⟩
    rw [a8, f1, ← hB, (aggF_1 (P := goP n B ru (rowF M) 1 (fun _ => -1) lo) (d' := fun _ => 0) (mi' := 100) _).1]
    rw [aggF_congr (P := goP n B ru (rowF M) 1 (fun _ => -1) lo) (P1 := P) (d := fun _ => 0) (d1 := fun _ => 0) _ (fun j _ => ⟨(PE j).symm, rfl⟩)]
  refine zT_w cls ?_
  rintro M1 ⟨a8, g1⟩
  refine zT_some ⟨g1, zT_w (rf M1 g1) ?_⟩
  rintro ⟨z, M2⟩ ⟨e, g2⟩
  rcases e with ⟨-, b⟩ | ⟨a, -⟩
  rotate_left
  · exact absurd hN a
  refine ⟨?_, g2⟩
  show z = M1 207 8
  rw [a8]
  exact b
end TRY

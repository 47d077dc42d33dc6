/-! ROWS THAT FIT: the class goes through them */ -/
def boxB (n B : Nat) (lo : Nat → Nat) (k : Nat) : Bool := (seekF (fun i => decide (dig B k i < lo i)) n 0).isNone
theorem boxB_t {n B : Nat} {lo : Nat → Nat} {k : Nat} : boxB n B lo k = true ↔ ∀ i, i < n → lo i ≤ dig B k i := by
  unfold boxB
  rw [none_iff]
  constructor
  · intro h i hi
    have := h i hi
    simp only [decide_eq_false_iff_not] at this
    omega
  · intro h i hi
    have := h i hi
    simp only [decide_eq_false_iff_not]
    omega
theorem boxB_f {n B : Nat} {lo : Nat → Nat} {k : Nat} (h : ∃ i, i < n ∧ dig B k i < lo i) : boxB n B lo k = false := by
  cases hb : boxB n B lo k with
  | false => rfl
  | true =>
    obtain ⟨i, hi, hl⟩ := h
    have := boxB_t.1 hb i hi
    omega
def kkF (B : Nat) (x5 : Int32) (kn : Nat → Int32) (lo : Nat → Nat) (k i : Nat) : Int32 := if x5 = 0 then kn i else nI (dig B k i) - nI (lo i)
def goP (n B : Nat) (ru : zRu) (W : Nat → Int32) (x5 : Int32) (kn : Nat → Int32) (lo : Nat → Nat) (k : Nat) : Bool := boxB n B lo k && fitB n (kkF B x5 kn lo k) (payW n ru (baseF n B k W))
/-- the cells of a going through -/
def goA : Nat → Nat → Prop := fun b k => zst b k ∨ b = 212 ∨ (b = 207 ∧ 8 ≤ k) ∨ b = 210
theorem zst.go {M M1 : zM} (g : zag zst M M1) : zag goA M M1 := g.mo (fun _ _ e => Or.inl e)
theorem goA.sk {M M1 : zM} (g : zag goA M M1) : zag zsk M M1 := g.mo (fun b k e => by unfold goA zst at e; unfold zsk; omega)
section TRY
variable {R : zR} {M : zM} {ru : zRu} {q l n T S u x : Nat}
theorem X10_start (ht : zRt R) {w : Nat → Int32} {lo : Nat → Nat} {most : Nat} (hw : RW M 213 n w) (hm : most ≤ 20) (hlo : ∀ i, i < n → M 211 i = nI (lo i) ∧ lo i < 2147483648) : zT (f_X10_startRows R M 207 (nI most)) (fun p => (p.1 = 1 ∧ (∀ i, i < n → lo i ≤ most) ∧ (∀ i, i < n → p.2 212 i = nI (lo i)) ∨ p.1 = 0 ∧ ∃ i, i < n ∧ most < lo i) ∧ zag (fun b _ => b = 212) M p.2) := by
  have hn := hw.1
  obtain ⟨_, _, _, _, _, _, _, _, t0, t1, t2, t3, t4, t5, t6⟩ := ht
  unfold f_X10_startRows
  refine zT_bd ?_
  refine zT_seek n (fun i => decide (most < lo i)) (fun i v => v.1 = nI i ∧ (∀ j, j < i → v.2 212 j = nI (lo j)) ∧ zag (fun b _ => b = 212) M v.2) ⟨rfl, fun j hj => absurd hj (by omega), zag.rf⟩ (by omega) ?_ ?_ ?_
  · rintro i ⟨y, M1⟩ hi ⟨rfl, d1, g1⟩ hp
    simp only at d1 g1 ⊢
    simp only [decide_eq_false_iff_not] at hp
    have w1 : RW M1 213 n w := hw.cells (fun a k q1 q2 => g1 a k (by omega))
    obtain ⟨l1, l2⟩ := hlo i hi
    have c1 : M1 211 i = nI (lo i) := by rw [g1 211 i (by omega)]; exact l1
    have hz := zin_nI (k := i) (n := 10) (by omega) (by omega)
    unfold b_X10_startRows_2
    rw [t5, t3, t4, ztn_nI (by omega), c1]
    refine zT_if0 (by rw [nI_lit 10]; exact nI_ge (by omega) (by omega)) (zT_bd (zT_eq (hz_yes w1 hi) (zT_if0 (by decide) (zT_ck hz (zT_if1 (nI_le (by omega) (by omega)) (zT_ck hz (zT_ck hz (zT_lt (zT_some ⟨nI_1 _, fun j hj => ?_, g1.up rfl⟩)))))))))
    show zup M1 212 i (nI (lo i)) 212 j = _
    by_cases c : j = i
    · subst c
      exact zup_same
    · rw [zup_k c]
      exact d1 j (by omega)
  · rintro i ⟨y, M1⟩ hi ⟨rfl, d1, g1⟩ hp hs
    simp only at d1 g1 ⊢
    simp only [decide_eq_true_eq] at hp
    have w1 : RW M1 213 n w := hw.cells (fun a k q1 q2 => g1 a k (by omega))
    obtain ⟨l1, l2⟩ := hlo i hi
    have c1 : M1 211 i = nI (lo i) := by rw [g1 211 i (by omega)]; exact l1
    have hz := zin_nI (k := i) (n := 10) (by omega) (by omega)
    unfold b_X10_startRows_2
    rw [t5, t3, t4, ztn_nI (by omega), c1]
    exact zT_if0 (by rw [nI_lit 10]; exact nI_ge (by omega) (by omega)) (zT_bd (zT_eq (hz_yes w1 hi) (zT_if0 (by decide) (zT_ck hz (zT_if0 (nI_ge (by omega) (by omega)) (zT_some (zT_some ⟨Or.inr ⟨rfl, i, hi, hp⟩, g1⟩)))))))
  · rintro ⟨y, M1⟩ ⟨rfl, d1, g1⟩ hs
    simp only at d1 g1 ⊢
    have w1 : RW M1 213 n w := hw.cells (fun a k q1 q2 => g1 a k (by omega))
    have fin : zT (Sum.elim (fun e11 : zM => some ((0 : Int32), e11)) (fun e12 : zM => some ((1 : Int32), e12)) (Sum.inr M1)) (fun p : Int32 × zM => (p.1 = 1 ∧ (∀ i, i < n → lo i ≤ most) ∧ (∀ i, i < n → p.2 212 i = nI (lo i)) ∨ p.1 = 0 ∧ ∃ i, i < n ∧ most < lo i) ∧ zag (fun b _ => b = 212) M p.2) := by
      refine zT_some ⟨Or.inl ⟨rfl, fun i hi => ?_, d1⟩, g1⟩
      have := seekF_no _ _ hs i (by omega) (by omega)
      simp only [decide_eq_false_iff_not] at this
      omega
    unfold b_X10_startRows_2
    rw [t5]
    exact zT_if (fun _ => zT_some fin) (fun _ => zT_bd (zT_eq (hz_end w1) (zT_if1 rfl (zT_some fin))))
theorem X10_step (ht : zRt R) {w : Nat → Int32} {lo : Nat → Nat} {most k : Nat} (hw : RW M 213 n w) (hm : most ≤ 20) (hm1 : 1 ≤ most) (hlo : ∀ i, i < n → M 211 i = nI (lo i)) (hrow : ∀ i, i < n → M 212 i = nI (dig (most + 1) k i)) : zT (f_X10_stepRow R M 207 (nI most)) (fun p => (p.1 = 1 ∧ (∃ j, j < n ∧ (∀ i, i < j → dig (most + 1) k i = most) ∧ dig (most + 1) k j < most ∧ (∀ i, i < n → p.2 212 i = if i < j then nI (lo i) else if i = j then nI (dig (most + 1) k j + 1) else nI (dig (most + 1) k i))) ∨ p.1 = 0 ∧ ∀ i, i < n → dig (most + 1) k i = most) ∧ zag (fun b _ => b = 212) M p.2) := by
  have hn := hw.1
  obtain ⟨_, _, _, _, _, _, _, _, t0, t1, t2, t3, t4, t5, t6⟩ := ht
  have dl : ∀ i, dig (most + 1) k i ≤ most := fun i => by have := dig_lt (B := most + 1) (k := k) (i := i) (by omega); omega
  unfold f_X10_stepRow
  refine zT_bd ?_
  refine zT_seek n (fun i => decide (dig (most + 1) k i < most)) (fun i v => v.1 = nI i ∧ (∀ j, j < n → v.2 212 j = if j < i then nI (lo j) else nI (dig (most + 1) k j)) ∧ (∀ j, j < i → dig (most + 1) k j = most) ∧ zag (fun b _ => b = 212) M v.2) ⟨rfl, fun j hj => by rw [if_neg (by omega)]; exact hrow j hj, fun j hj => absurd hj (by omega), zag.rf⟩ (by omega) ?_ ?_ ?_
  · rintro i ⟨y, M1⟩ hi ⟨rfl, d1, f1, g1⟩ hp
    simp only at d1 f1 g1 ⊢
    simp only [decide_eq_false_iff_not] at hp
    have di := dl i
    have w1 : RW M1 213 n w := hw.cells (fun a k q1 q2 => g1 a k (by omega))
    have c1 : M1 211 i = nI (lo i) := by rw [g1 211 i (by omega)]; exact hlo i hi
    have c2 : M1 212 i = nI (dig (most + 1) k i) := by rw [d1 i hi, if_neg (by omega)]
    have hz := zin_nI (k := i) (n := 10) (by omega) (by omega)
    unfold b_X10_stepRow_2
    rw [t5, t3, t4, ztn_nI (by omega), c1, c2]
    refine zT_if0 (by rw [nI_lit 10]; exact nI_ge (by omega) (by omega)) (zT_bd (zT_eq (hz_yes w1 hi) (zT_if0 (by decide) (zT_ck hz (zT_if1 (nI_le (by omega) (by omega)) (zT_ck hz (zT_ck hz (zT_lt (zT_some ⟨nI_1 _, fun j hj => ?_, fun j hj => ?_, g1.up rfl⟩)))))))))
    · show zup M1 212 i (nI (lo i)) 212 j = _
      by_cases c : j = i
      · subst c
        rw [zup_same, if_pos (by omega)]
      · rw [zup_k c, d1 j hj]
        by_cases c3 : j < i
        · rw [if_pos c3, if_pos (by omega)]
        · rw [if_neg c3, if_neg (by omega)]
    · by_cases c : j = i
      · subst c
        omega
      · exact f1 j (by omega)
  · rintro i ⟨y, M1⟩ hi ⟨rfl, d1, f1, g1⟩ hp hs
    simp only at d1 f1 g1 ⊢
    simp only [decide_eq_true_eq] at hp
    have w1 : RW M1 213 n w := hw.cells (fun a k q1 q2 => g1 a k (by omega))
    have c2 : M1 212 i = nI (dig (most + 1) k i) := by rw [d1 i hi, if_neg (by omega)]
    have hz := zin_nI (k := i) (n := 10) (by omega) (by omega)
    unfold b_X10_stepRow_2
    rw [t5, t4, ztn_nI (by omega), c2]
    refine zT_if0 (by rw [nI_lit 10]; exact nI_ge (by omega) (by omega)) (zT_bd (zT_eq (hz_yes w1 hi) (zT_if0 (by decide) (zT_ck hz (zT_if0 (nI_ge (by omega) (by omega)) (zT_some ?_))))))
    refine zT_ck hz (zT_ck hz (zT_lt (zT_some ⟨Or.inl ⟨rfl, i, hi, f1, hp, fun j hj => ?_⟩, g1.up rfl⟩)))
    show zup M1 212 (ztn (nI i)) (M1 212 (ztn (nI i)) + 1) 212 j = _
    rw [ztn_nI (by omega), c2, nI_1]
    by_cases c : j = i
    · subst c
      rw [zup_same, if_neg (by omega), if_pos rfl]
    · rw [zup_k c, d1 j hj]
      by_cases c3 : j < i
      · rw [if_pos c3, if_pos c3]
      · rw [if_neg c3, if_neg c3, if_neg c]
  · rintro ⟨y, M1⟩ ⟨rfl, d1, f1, g1⟩ hs
    simp only at d1 f1 g1 ⊢
    have w1 : RW M1 213 n w := hw.cells (fun a k q1 q2 => g1 a k (by omega))
    have fin : zT (Sum.elim (fun e11 : Int32 × zM => zck (zin e11.1 10) <| zck (zin e11.1 10) <| zlt (zup e11.2 212 (ztn e11.1) ((e11.2 212 (ztn e11.1)) + (1 : Int32))) fun M15 => some ((1 : Int32), M15)) (fun e12 : zM => some ((0 : Int32), e12)) (Sum.inr M1)) (fun p : Int32 × zM => (p.1 = 1 ∧ (∃ j, j < n ∧ (∀ i, i < j → dig (most + 1) k i = most) ∧ dig (most + 1) k j < most ∧ (∀ i, i < n → p.2 212 i = if i < j then nI (lo i) else if i = j then nI (dig (most + 1) k j + 1) else nI (dig (most + 1) k i))) ∨ p.1 = 0 ∧ ∀ i, i < n → dig (most + 1) k i = most) ∧ zag (fun b _ => b = 212) M p.2) := zT_some ⟨Or.inr ⟨rfl, f1⟩, g1⟩
    unfold b_X10_stepRow_2
    rw [t5, t4]
    exact zT_if (fun _ => zT_some fin) (fun _ => zT_bd (zT_eq (hz_end w1) (zT_if1 rfl (zT_some fin))))
theorem X10_go (h : zSt R M ru q l n T S u x) {lo : Nat → Nat} {most hh L : Nat} {x5 : Int32} {kn : Nat → Int32} (hm : most ≤ 20) (hm1 : 1 ≤ most) (hN : (most + 1) ^ n ≤ 200000) (hhh : hh < 10) (hlo : ∀ i, i < n → M 211 i = nI (lo i) ∧ lo i < 2147483648) (hkn : x5 = 0 → ∀ i, i < n → M 210 i = kn i) (hL : L ≤ n) (hla : ∀ i, i ≤ 10 → (M 207 7 < nI i ↔ L ≤ i)) (hno : x5 = 0 → ∀ i, i < n → L ≤ i → kn i = -1) (hL5 : x5 ≠ 0 → L = n)
    {ans : Nat × Nat × Nat} (hA : aggF (goP n (most + 1) ru (rowF M) x5 kn lo) (fun k => dig (most + 1) k hh) most ((most + 1) ^ n) = ans) :
    zT (f_X10_goThrough R M 207 q 13 (nI most) (nI hh) x5) (fun M1 => M1 207 8 = nI ans.1 ∧ (hh < n → M1 207 9 = nI ans.2.1 ∧ M1 207 10 = nI ans.2.2) ∧ zag zsk M M1) := by
  have hn := h.n10
  obtain ⟨_, _, _, _, _, _, _, _, t0, t1, t2, t3, t4, t5, t6⟩ := id h.rt
  have ht : zTr 213 := by unfold zTr; omega
  obtain ⟨B, hB⟩ : ∃ B, B = most + 1 := ⟨_, rfl⟩
  rw [← hB] at hN hA
  have mB : most = B - 1 := by omega
  obtain ⟨P, hP⟩ : ∃ P, P = goP n B ru (rowF M) x5 kn lo := ⟨_, rfl⟩
  obtain ⟨d, hd⟩ : ∃ d : Nat → Nat, d = fun k => dig B k hh := ⟨_, rfl⟩
  rw [← hP, ← hd] at hA
  unfold f_X10_goThrough
  refine zT_lt (zT_lt (zT_lt (zT_bd ?_)))
  have g0 : zag goA M (zup (zup (zup M 207 8 0) 207 9 (nI most)) 207 10 0) := ((zag.rf.up (by unfold goA; omega)).up (by unfold goA; omega)).up (by unfold goA; omega)
  have a8 : zup (zup (zup M 207 8 0) 207 9 (nI most)) 207 10 0 207 8 = 0 := by rw [zup_k (by omega), zup_k (by omega), zup_same]
  have a9 : zup (zup (zup M 207 8 0) 207 9 (nI most)) 207 10 0 207 9 = nI most := by rw [zup_k (by omega), zup_same]
  have a10 : zup (zup (zup M 207 8 0) 207 9 (nI most)) 207 10 0 207 10 = 0 := zup_same
  have o0 : ∀ i, zup (zup (zup M 207 8 0) 207 9 (nI most)) 207 10 0 210 i = M 210 i := fun i => by rw [zup_a (by omega), zup_a (by omega), zup_a (by omega)]
  generalize zup (zup (zup M 207 8 0) 207 9 (nI most)) 207 10 0 = M0 at g0 a8 a9 a10 o0 ⊢
  have h0 := h.sc (zsk.sc (goA.sk g0))
  rw [t5]
  refine zT_w (h0.copyC t6 ht) ?_
  rintro M1 ⟨w1, g1, f1⟩
  rw [zsk.rws (goA.sk g0)] at w1
  refine zT_bd ?_
  refine zT_w (Q := fun M2 : zM => (∃ w, RW M2 213 n w ∧ (∀ i, i < n → w (10 + i) = 0) ∧ w 42 = rowF M 42) ∧ zag zst M0 M2) (zT_for n (fun i v => v.1 = nI i ∧ (∃ w, RW v.2 213 n w ∧ (∀ j, j < i → w (10 + j) = 0) ∧ w 42 = rowF M 42) ∧ zag zst M0 v.2) ⟨rfl, ⟨_, w1, fun j hj => absurd hj (by omega), rfl⟩, g1⟩ (by omega) ?_ ?_) ?_
  · rintro i ⟨y, M2⟩ hi ⟨rfl, ⟨w, r2, z2, e2⟩, g2⟩
    simp only at r2 g2 ⊢
    have hz := zin_nI (k := i) (n := 10) (by omega) (by omega)
    unfold b_X10_goThrough_26
    rw [t5, t6.2.1]
    refine zT_if0 (by rw [nI_lit 10]; exact nI_ge (by omega) (by omega)) (zT_bd (zT_eq (hz_yes r2 hi) (zT_if0 (by decide) (zT_ck hz (zT_lt (zT_some ⟨nI_1 _, ?_, g2.up (by unfold zst; omega)⟩))))))
    rw [ztn_nI (by omega)]
    refine ⟨_, r2.hid hi 0, fun j hj => ?_, by rw [upd_n (by omega)]; exact e2⟩
    by_cases c : j = i
    · subst c
      exact upd_s
    · rw [upd_n (by omega)]
      exact z2 j (by omega)
  · rintro ⟨y, M2⟩ ⟨rfl, ⟨w, r2, z2, e2⟩, g2⟩
    simp only at r2 g2 ⊢
    unfold b_X10_goThrough_26
    rw [t5]
    exact zT_if (fun _ => zT_some ⟨⟨w, r2, z2, e2⟩, g2⟩) (fun _ => zT_bd (zT_eq (hz_end r2) (zT_if1 rfl (zT_some ⟨⟨w, r2, z2, e2⟩, g2⟩))))
  rintro M2 ⟨⟨w, r2, z2, e2⟩, g2⟩
  have c2 : ∀ a k, ¬ zst a k → M2 a k = M0 a k := fun a k hk => g2 a k hk
  have g02 := g0.tr (zst.go g2)
  refine zT_bd2 (zT_w (X10_start h.rt r2 hm (lo := lo) (fun i hi => ⟨by rw [g02 211 i (by unfold goA zst; omega)]; exact (hlo i hi).1, (hlo i hi).2⟩)) ?_)
  rintro ⟨more, M3⟩ ⟨s3, g3⟩
  simp only at s3 g3 ⊢
  have g03 := g02.tr (g3.mo (fun b k e => by unfold goA; omega))
  have r3 : RW M3 213 n w := r2.cells (fun a k q1 q2 => g3 a k (by omega))
  have b8 : M3 207 8 = 0 := by rw [g3 207 8 (by omega), c2 207 8 (by unfold zst; omega)]; exact a8
  have b9 : M3 207 9 = nI most := by rw [g3 207 9 (by omega), c2 207 9 (by unfold zst; omega)]; exact a9
  have b10 : M3 207 10 = 0 := by rw [g3 207 10 (by omega), c2 207 10 (by unfold zst; omega)]; exact a10
  have o3 : x5 = 0 → ∀ i, i < n → M3 210 i = kn i := fun c i hi => by rw [g3 210 i (by omega), c2 210 i (by unfold zst; omega), o0]; exact hkn c i hi
  have pN : ∀ k, k < B ^ n → (∃ i, i < n ∧ dig B k i < lo i) → P k = false := fun k hk he => by
    rw [hP]
    unfold goP
    rw [boxB_f he]
    rfl
  refine zT_bd ?_
  refine zT_loop (fun m v => ∃ W c, v.2.1 = nI c ∧ c ≤ W ∧ W ≤ 200000 ∧ zag goA M v.2.2 ∧ (∃ w, RW v.2.2 213 n w ∧ (∀ i, i < n → w (10 + i) = 0) ∧ w 42 = rowF M 42) ∧ (x5 = 0 → ∀ i, i < n → v.2.2 210 i = kn i) ∧ v.2.2 207 8 = nI (aggF P d most W).1 ∧ (hh < n → v.2.2 207 9 = nI (aggF P d most W).2.1 ∧ v.2.2 207 10 = nI (aggF P d most W).2.2) ∧ (v.1 = 1 ∧ m = B ^ n - W ∧ W < B ^ n ∧ (∀ i, i < n → v.2.2 212 i = nI (dig B W i)) ∧ (∀ i, i < n → lo i ≤ dig B W i) ∨ v.1 = 0 ∧ m = 0 ∧ aggF P d most W = ans)) (if more = 1 then B ^ n - valF B lo n else 0) ?_ (by split <;> omega) ?_
  · rcases s3 with ⟨rfl, s4, s5⟩ | ⟨rfl, i0, hi0, s4⟩
    · have hv := valF_lt (B := B) (lo := lo) n (fun i hi => by have := s4 i hi; omega)
      have e0 : aggF P d most (valF B lo n) = aggF P d most 0 := aggF_skip _ (by omega) (fun k _ hk => pN k (by omega) (first_box (by omega) hk))
      have dg : ∀ i, i < n → dig B (valF B lo n) i = lo i := fun i hi => by
        have := dig_lo (B := B) (lo := lo) n 0 i (fun i hi => by have := s4 i hi; omega) hi
        rw [Nat.mul_zero, Nat.add_zero] at this
        exact this
      refine ⟨valF B lo n, 0, rfl, by omega, by omega, g03, ⟨w, r3, z2, e2⟩, o3, by rw [e0]; exact b8, fun _ => by rw [e0]; exact ⟨b9, b10⟩, Or.inl ⟨rfl, by rw [if_pos rfl], hv, fun i hi => by rw [dg i hi]; exact s5 i hi, fun i hi => by rw [dg i hi]; exact Nat.le_refl _⟩⟩
    · have e0 : aggF P d most (B ^ n) = aggF P d most 0 := aggF_skip _ (by omega) (fun k _ hk => pN k hk ⟨i0, hi0, by have := dig_lt (B := B) (k := k) (i := i0) (by omega); omega⟩)
      exact ⟨0, 0, rfl, by omega, by omega, g03, ⟨w, r3, z2, e2⟩, o3, b8, fun _ => ⟨b9, b10⟩, Or.inr ⟨rfl, by rw [if_neg (by decide)], by rw [← e0]; exact hA⟩⟩
  rintro m ⟨mo, rows, M4⟩ ⟨W, c, rfl, hcW, hW2, g4, ⟨w4, r4, z4, e4⟩, o4, q8, q9, hcase⟩
  simp only at g4 r4 o4 q8 q9 hcase ⊢
  unfold b_X10_goThrough_72
  rcases hcase with ⟨rfl, rfl, hWN, hd4, hl4⟩ | ⟨rfl, rfl, hend⟩
  rotate_left
  · have fin : M4 207 8 = nI ans.1 ∧ (hh < n → M4 207 9 = nI ans.2.1 ∧ M4 207 10 = nI ans.2.2) ∧ zag zsk M M4 := by
      rw [hend] at q8 q9
      exact ⟨q8, q9, goA.sk g4⟩
    exact zT_if (fun _ => zT_some (zT_some fin)) (fun _ => zT_if1 rfl (zT_some (zT_some fin)))
  refine zT_if0 (by rw [nI_lit 200000]; exact nI_ge (by omega) (by omega)) (zT_if0 (by decide) (zT_bd ?_))
  rw [t5]
  -- what is known of this row
  refine zT_w (Q := fun M5 : zM => (∀ i, i < n → M5 210 i = kkF B x5 kn lo W i) ∧ zag (fun b _ => b = 210) M4 M5 ∧ (x5 = 0 → ∀ i, i < n → M5 210 i = kn i)) ?_ ?_
  · by_cases c5 : x5 = 0
    · refine zT_for 0 (fun i v => v.1 = nI i ∧ v.2 = M4) ⟨rfl, rfl⟩ (by omega) (fun i v hi => absurd hi (by omega)) ?_
      rintro ⟨y, M5⟩ ⟨rfl, rfl⟩
      unfold b_X10_goThrough_87
      refine zT_if1 c5 (zT_some ⟨fun i hi => ?_, zag.rf, o4⟩)
      unfold kkF
      rw [if_pos c5]
      exact o4 c5 i hi
    · refine zT_for n (fun i v => v.1 = nI i ∧ (∀ j, j < i → v.2 210 j = kkF B x5 kn lo W j) ∧ zag (fun b _ => b = 210) M4 v.2) ⟨rfl, fun j hj => absurd hj (by omega), zag.rf⟩ (by omega) ?_ ?_
      · rintro i ⟨y, M5⟩ hi ⟨rfl, d5, g5⟩
        simp only at d5 g5 ⊢
        have r5 : RW M5 213 n w4 := r4.cells (fun a k q1 q2 => g5 a k (by omega))
        have hz := zin_nI (k := i) (n := 10) (by omega) (by omega)
        unfold b_X10_goThrough_87
        rw [t5, t2, t3, t4, ztn_nI (by omega), g5 212 i (by omega), hd4 i hi, g5 211 i (by omega), g4 211 i (by unfold goA zst; omega), (hlo i hi).1]
        refine zT_if0 c5 (zT_if0 (by rw [nI_lit 10]; exact nI_ge (by omega) (by omega)) (zT_bd (zT_eq (hz_yes r5 hi) (zT_if0 (by decide) (zT_ck hz (zT_ck hz (zT_ck hz (zT_lt (zT_some ⟨nI_1 _, fun j hj => ?_, g5.up rfl⟩)))))))))
        show zup M5 210 i _ 210 j = _
        by_cases c6 : j = i
        · subst c6
          rw [zup_same]
          unfold kkF
          rw [if_neg c5]
        · rw [zup_k c6]
          exact d5 j (by omega)
      · rintro ⟨y, M5⟩ ⟨rfl, d5, g5⟩
        simp only at d5 g5 ⊢
        have r5 : RW M5 213 n w4 := r4.cells (fun a k q1 q2 => g5 a k (by omega))
        unfold b_X10_goThrough_87
        rw [t5]
        exact zT_if0 c5 (zT_if (fun _ => zT_some ⟨d5, g5, fun q => absurd q c5⟩) (fun _ => zT_bd (zT_eq (hz_end r5) (zT_if1 rfl (zT_some ⟨d5, g5, fun q => absurd q c5⟩)))))
  rintro M5 ⟨d5, g5, o5⟩
  have r5 : RW M5 213 n w4 := r4.cells (fun a k q1 q2 => g5 a k (by omega))
  have g05 := g4.tr (g5.mo (fun b k e => by unfold goA; omega))
  have h5 := h.sc (zsk.sc (goA.sk g05))
  have p5 : M5 13 5 = rowF M 41 := by
    have := h5.row.2.2.2.1
    rw [zsk.rws (goA.sk g05)] at this
    exact this
  refine zT_lt ?_
  rw [p5]
  have r6 := r5.pot (rowF M 41)
  have g6 : zag goA M (zup M5 213 5 (rowF M 41)) := g05.up (by unfold goA zst; omega)
  have c6 : ∀ a k, a ≠ 213 → zup M5 213 5 (rowF M 41) a k = M5 a k := fun a k hk => zup_a hk
  generalize zup M5 213 5 (rowF M 41) = M6 at r6 g6 c6 ⊢
  have h6 := h.sc (zsk.sc (goA.sk g6))
  have f6 := zsk.rws (goA.sk g6)
  have hpay := X10_pays h6 (w := upd w4 41 (rowF M 41)) (B := B) (k := W) (L := L) r6 (fun i hi => by rw [upd_n (by omega)]; exact z4 i hi) (by rw [upd_s, f6]) (by rw [upd_n (by omega), f6]; exact e4) (fun i hi => by rw [c6 212 i (by omega), g5 212 i (by omega)]; exact hd4 i hi) (kn := kkF B x5 kn lo W) (fun i hi => by rw [c6 210 i (by omega)]; exact d5 i hi) hL (fun i hi => by rw [g6 207 7 (by unfold goA zst; omega)]; exact hla i hi) (fun i hi hLi => by
    by_cases c5 : x5 = 0
    · unfold kkF
      rw [if_pos c5]
      exact hno c5 i hi hLi
    · have := hL5 c5
      omega)
  rw [f6] at hpay
  refine zT_bd2 (zT_w hpay ?_)
  rintro ⟨r, M7⟩ ⟨e7, ⟨w7, r7, z7, e72⟩, g7⟩
  simp only at e7 r7 g7 ⊢
  have g07 := g6.tr (zst.go g7)
  have pW : P W = fitB n (kkF B x5 kn lo W) (payW n ru (baseF n B W (rowF M))) := by
    rw [hP]
    unfold goP
    rw [boxB_t.2 hl4]
    rfl
  rw [← pW] at e7
  have k7 : ∀ a k, ¬ zst a k → a ≠ 210 → M7 a k = M4 a k := fun a k hk h210 => by rw [g7 a k hk, c6 a k (fun q => hk (by unfold zst; omega)), g5 a k h210]
  have o7 : x5 = 0 → ∀ i, i < n → M7 210 i = kn i := fun c5 i hi => by rw [g7 210 i (by unfold zst; omega), c6 210 i (by omega)]; exact o5 c5 i hi
  -- behind the row
  have behind : ∀ M8 : zM, zag goA M M8 → RW M8 213 n w7 → (∀ i, i < n → M8 212 i = nI (dig B W i)) → (x5 = 0 → ∀ i, i < n → M8 210 i = kn i) → M8 207 8 = nI (aggF P d most (W + 1)).1 → (hh < n → M8 207 9 = nI (aggF P d most (W + 1)).2.1 ∧ M8 207 10 = nI (aggF P d most (W + 1)).2.2) → zT (j_X10_goThrough_164 R M8 207 q 13 (nI most) (nI hh) x5 (nI c)) (Sum.elim (fun v1 => ∃ k1, k1 < B ^ n - W ∧ ∃ W c, v1.2.1 = nI c ∧ c ≤ W ∧ W ≤ 200000 ∧ zag goA M v1.2.2 ∧ (∃ w, RW v1.2.2 213 n w ∧ (∀ i, i < n → w (10 + i) = 0) ∧ w 42 = rowF M 42) ∧ (x5 = 0 → ∀ i, i < n → v1.2.2 210 i = kn i) ∧ v1.2.2 207 8 = nI (aggF P d most W).1 ∧ (hh < n → v1.2.2 207 9 = nI (aggF P d most W).2.1 ∧ v1.2.2 207 10 = nI (aggF P d most W).2.2) ∧ (v1.1 = 1 ∧ k1 = B ^ n - W ∧ W < B ^ n ∧ (∀ i, i < n → v1.2.2 212 i = nI (dig B W i)) ∧ (∀ i, i < n → lo i ≤ dig B W i) ∨ v1.1 = 0 ∧ k1 = 0 ∧ aggF P d most W = ans)) (fun a => zT (some a) (fun M1 => M1 207 8 = nI ans.1 ∧ (hh < n → M1 207 9 = nI ans.2.1 ∧ M1 207 10 = nI ans.2.2) ∧ zag zsk M M1))) := by
    intro M8 g8 r8 d8 o8 u8 u9
    unfold j_X10_goThrough_164
    have st := X10_step h.rt (k := W) r8 hm hm1 (lo := lo) (fun i hi => by rw [g8 211 i (by unfold goA zst; omega)]; exact (hlo i hi).1) (by rw [← hB]; exact d8)
    rw [← hB] at st
    refine zT_bd2 (zT_w st ?_)
    rintro ⟨mo, M9⟩ ⟨s9, g9⟩
    simp only at s9 g9 ⊢
    have g09 := g8.tr (g9.mo (fun b k e => by unfold goA; omega))
    have r9 : RW M9 213 n w7 := r8.cells (fun a k q1 q2 => g9 a k (by omega))
    have o9 : x5 = 0 → ∀ i, i < n → M9 210 i = kn i := fun c5 i hi => by rw [g9 210 i (by omega)]; exact o8 c5 i hi
    have u98 : M9 207 8 = nI (aggF P d most (W + 1)).1 := by rw [g9 207 8 (by omega)]; exact u8
    have u99 : hh < n → M9 207 9 = nI (aggF P d most (W + 1)).2.1 ∧ M9 207 10 = nI (aggF P d most (W + 1)).2.2 := fun c => by rw [g9 207 9 (by omega), g9 207 10 (by omega)]; exact u9 c
    rcases s9 with ⟨rfl, j, hj, f1, f2, f3⟩ | ⟨rfl, f1⟩
    · have nx := next_of (B := B) (k := W) (j := j) (n := n) (lo := lo) (by omega) (fun i hi => by
        have a := hl4 i (by omega)
        have b := dig_lt (B := B) (k := W) (i := i) (by omega)
        omega) (fun i hi => by rw [f1 i hi]; exact mB) (by omega) hj hWN
      obtain ⟨⟨n1, n2⟩, n3, n4, n5, n6⟩ := nx
      have ea : aggF P d most (nextF B lo W j) = aggF P d most (W + 1) := aggF_skip _ (by omega) (fun k k1 k2 => by
        obtain ⟨i, hi, hl⟩ := n6 k (by omega) k2
        exact pN k (by omega) ⟨i, by omega, hl⟩)
      have dg : ∀ i, i < n → M9 212 i = nI (dig B (nextF B lo W j) i) ∧ lo i ≤ dig B (nextF B lo W j) i := fun i hi => by
        rw [f3 i hi]
        rcases Nat.lt_trichotomy i j with c1 | c1 | c1
        · rw [if_pos c1, n3 i c1]
          exact ⟨rfl, Nat.le_refl _⟩
        · subst c1
          rw [if_neg (by omega), if_pos rfl, n4]
          exact ⟨rfl, by have := hl4 i hi; omega⟩
        · rw [if_neg (by omega), if_neg (by omega), n5 i c1]
          exact ⟨rfl, hl4 i hi⟩
      refine zT_some ⟨B ^ n - nextF B lo W j, by omega, nextF B lo W j, c + 1, nI_1 _, by omega, by omega, g09, ⟨w7, r9, z7, e72⟩, o9, by rw [ea]; exact u98, by rw [ea]; exact u99, Or.inl ⟨rfl, rfl, n2, fun i hi => (dg i hi).1, fun i hi => (dg i hi).2⟩⟩
    · have last := full_last (B := B) (k := W) (n := n) (by omega) hWN (fun i hi => by rw [f1 i hi]; exact mB)
      refine zT_some ⟨0, by omega, W + 1, c + 1, nI_1 _, by omega, by omega, g09, ⟨w7, r9, z7, e72⟩, o9, u98, u99, Or.inr ⟨rfl, rfl, by rw [last]; exact hA⟩⟩
  have agg1 : aggF P d most (W + 1) = if P W = true then ((aggF P d most W).1 + 1, if d W < (aggF P d most W).2.1 then d W else (aggF P d most W).2.1, if (aggF P d most W).2.2 < d W then d W else (aggF P d most W).2.2) else aggF P d most W := rfl
  by_cases hpW : P W = true
  · rw [if_pos hpW] at e7 agg1
    refine zT_if0 (by rw [e7]; decide) (zT_bd ?_)
    unfold f_X10_note
    refine zT_lt ?_
    rw [k7 207 8 (by unfold zst; omega) (by omega), q8, nI_1]
    have hz := zin_nI (k := hh) (n := 10) hhh (by omega)
    rw [t4, ztn_nI (by omega)]
    have v12 : zup M7 207 8 (nI ((aggF P d most W).1 + 1)) 212 hh = M7 212 hh := zup_a (by omega)
    refine zT_if0 (nI_pos (by omega)) (zT_if1 (by rw [nI_lit 10]; exact nI_lt hhh (by omega)) (zT_ck hz (zT_lt (zT_ck hz (zT_lt (zT_some ?_))))))
    have bnd := aggF_b (P := P) (d := d) (mi := most) (mi' := most) (t := most) (fun k => by rw [hd]; have := dig_lt (B := B) (k := k) (i := hh) (by omega); show dig B k hh ≤ most; omega) (Nat.le_refl _) (Nat.le_refl _) W
    have bl : (aggF P d most W).2.1 ≤ most := by rcases bnd.1 with ⟨_, a, _⟩ | ⟨_, _, a⟩ <;> omega
    have bg : (aggF P d most W).2.2 ≤ most := bnd.2.2
    refine behind _ ?_ ?_ ?_ ?_ ?_ ?_
    · exact ((g07.up (by unfold goA; omega)).up (by unfold goA; omega)).up (by unfold goA; omega)
    · exact r7.cells (fun a k q1 q2 => by rw [zup_a (by omega), zup_a (by omega), zup_a (by omega)])
    · intro i hi
      rw [zup_a (by omega), zup_a (by omega), zup_a (by omega), k7 212 i (by unfold zst; omega) (by omega)]
      exact hd4 i hi
    · intro c5 i hi
      rw [zup_a (by omega), zup_a (by omega), zup_a (by omega)]
      exact o7 c5 i hi
    · rw [zup_k (by omega), zup_k (by omega), zup_same, agg1]
    · intro hc
      obtain ⟨u9, u10⟩ := q9 hc
      have v9 : zup M7 207 8 (nI ((aggF P d most W).1 + 1)) 207 9 = nI (aggF P d most W).2.1 := by rw [zup_k (by omega), k7 207 9 (by unfold zst; omega) (by omega)]; exact u9
      have vd : M7 212 hh = nI (d W) := by rw [k7 212 hh (by unfold zst; omega) (by omega), hd4 hh hc, hd]
      have dl : d W ≤ most := by rw [hd]; have := dig_lt (B := B) (k := W) (i := hh) (by omega); show dig B W hh ≤ most; omega
      rw [agg1]
      refine ⟨?_, ?_⟩
      · rw [zup_k (by omega), zup_same, v12, v9, vd]
        show _ = nI (if d W < (aggF P d most W).2.1 then d W else (aggF P d most W).2.1)
        by_cases c1 : d W < (aggF P d most W).2.1
        · rw [if_pos (nI_lt c1 (by omega)), if_pos c1]
        · rw [if_neg (nI_nlt (by omega) (by omega)), if_neg c1]
      · have va : ∀ y : Int32, zup (zup M7 207 8 (nI ((aggF P d most W).1 + 1))) 207 9 y 212 hh = nI (d W) := fun y => by rw [zup_a (by omega), zup_a (by omega), vd]
        have vb : ∀ y : Int32, zup (zup M7 207 8 (nI ((aggF P d most W).1 + 1))) 207 9 y 207 10 = nI (aggF P d most W).2.2 := fun y => by rw [zup_k (by omega), zup_k (by omega), k7 207 10 (by unfold zst; omega) (by omega), u10]
        rw [zup_same, va, vb]
        show _ = nI (if (aggF P d most W).2.2 < d W then d W else (aggF P d most W).2.2)
        by_cases c1 : (aggF P d most W).2.2 < d W
        · rw [if_pos (nI_lt c1 (by omega)), if_pos c1]
        · rw [if_neg (nI_nlt (by omega) (by omega)), if_neg c1]
  · rw [if_neg hpW] at e7 agg1
    refine zT_if1 e7 (behind M7 g07 r7 (fun i hi => by rw [k7 212 i (by unfold zst; omega) (by omega)]; exact hd4 i hi) o7 ?_ ?_)
    · rw [agg1, k7 207 8 (by unfold zst; omega) (by omega)]
      exact q8
    · intro hc
      rw [agg1, k7 207 9 (by unfold zst; omega) (by omega), k7 207 10 (by unfold zst; omega) (by omega)]
      exact q9 hc
end TRY

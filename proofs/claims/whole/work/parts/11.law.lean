/-! THE LAWS: a flat piece of the class's steps, and what it gives -/
def combF (k a b : Int32) : Int32 := if k = 42 then a * b else if k = 43 then a + b else if k = 44 then (if b = 0 then 0 else a / b) else if k = 45 then a - b else (if b = 0 then 0 else a / b)
theorem X3_combined (k a b : Int32) : f_X3_combined k a b = some (combF k a b) := by
  unfold f_X3_combined combF
  have z : ∀ (y : Int32), ¬ b = 0 → zck (znz b) (some y) = some y := fun y h => by
    unfold zck znz
    rw [if_pos (by simpa using h)]
  split
  · rfl
  split
  · rfl
  split
  · split
    · rfl
    · rename_i h; exact z _ h
  split
  · rfl
  split
  · rfl
  · rename_i h; exact z _ h
def evF (s : Nat → Int32) : Nat → List (Int32 × Int32 × Nat) → List Int32 → Int32
  | 0, _, _ => 0
  | _ + 1, [], _ => 0
  | m + 1, (k, x, n) :: c, st =>
    if k = 4 then st.headD 0
    else if k = 1 then (if 16 ≤ st.length then 0 else if 0 ≤ x then evF s m c (x :: st) else 0)
    else if k = 2 then (if 16 ≤ st.length then 0 else if 0 ≤ x then (if x < 7 then evF s m c (s (ztn x) :: st) else 0) else 0)
    else if st.length < 2 then 0
    else if k = 3 then (if st.tail.headD 0 < st.headD 0 then evF s m c st.tail.tail else evF s m (c.drop n) st.tail.tail)
    else if k = 47 ∧ st.headD 0 = 0 then 0
    else evF s m c (combF k (st.tail.headD 0) (st.headD 0) :: st.tail.tail)
theorem evF_fuel {s : Nat → Int32} : ∀ (m m1 : Nat) (c : List (Int32 × Int32 × Nat)) (st : List Int32), c.length < m → c.length < m1 → evF s m c st = evF s m1 c st
  | 0, _, _, _, h, _ => absurd h (by omega)
  | _ + 1, 0, _, _, _, h => absurd h (by omega)
  | _ + 1, _ + 1, [], _, _, _ => rfl
  | m + 1, m1 + 1, (k, x, n) :: c, st, h, h1 => by
    have ih : ∀ st, evF s m c st = evF s m1 c st := fun st => evF_fuel m m1 c st (by simp at h; omega) (by simp at h1; omega)
    have ih2 : ∀ st, evF s m (c.drop n) st = evF s m1 (c.drop n) st := fun st => evF_fuel m m1 (c.drop n) st (by simp at h ⊢; omega) (by simp at h1 ⊢; omega)
    simp only [evF, ih, ih2]
def zAt (M : zM) (A B : Nat) : Nat → List (Int32 × Int32 × Nat) → Prop
  | _, [] => True
  | p, (k, x, n) :: c => M A p = k ∧ (k = 1 ∨ k = 2 → M B p = x) ∧ (k = 3 → n ≤ c.length ∧ M B p = nI (p + 1 + n)) ∧ zAt M A B (p + 1) c
theorem zAt.eq {M M1 : zM} {A B : Nat} (h1 : ∀ k, M1 A k = M A k) (h2 : ∀ k, M1 B k = M B k) : ∀ (c : List (Int32 × Int32 × Nat)) (p : Nat), zAt M A B p c → zAt M1 A B p c
  | [], _, _ => trivial
  | (k, x, n) :: c, p, h => by
    obtain ⟨a, b, d, e⟩ := h
    exact ⟨by rw [h1]; exact a, fun q => by rw [h2]; exact b q, fun q => by rw [h2]; exact d q, zAt.eq h1 h2 c (p + 1) e⟩
theorem zAt.drop {M : zM} {A B : Nat} : ∀ (n : Nat) (c : List (Int32 × Int32 × Nat)) (p : Nat), n ≤ c.length → zAt M A B p c → zAt M A B (p + n) (c.drop n)
  | 0, _, _, _, h => h
  | n + 1, [], _, h, _ => absurd h (by simp)
  | n + 1, _ :: c, p, h, q => by
    have := zAt.drop n c (p + 1) (by simpa using h) q.2.2.2
    rw [show p + 1 + n = p + (n + 1) by omega] at this
    exact this
/-- the law at a: steps R a 0, args R a 1, stack R a 2; the code fills it -/
def zLw (R : zR) (M : zM) (a : Nat) (c : List (Int32 × Int32 × Nat)) : Prop := R a 0 = a + 1 ∧ R a 1 = a + 2 ∧ R a 2 = a + 3 ∧ M a 3 = nI c.length ∧ c.length ≤ 400 ∧ zAt M (a + 1) (a + 2) 0 c
def zStk (M : zM) (b : Nat) : List Int32 → Prop
  | [] => True
  | x :: st => M b st.length = x ∧ zStk M b st
theorem zStk.up {M : zM} {b n : Nat} {v : Int32} : ∀ (st : List Int32), st.length ≤ n → zStk M b st → zStk (zup M b n v) b st
  | [], _, _ => trivial
  | x :: st, h, q => ⟨by rw [zup_k (by simp at h; omega)]; exact q.1, zStk.up st (by simp at h; omega) q.2⟩
theorem X3_value {R : zR} {M : zM} {a q : Nat} {c : List (Int32 × Int32 × Nat)} (h : zLw R M a c) (hq : q < a ∨ a + 4 ≤ q) : zT (f_X3_value R M a q) (fun p => p.1 = evF (M q) (c.length + 1) c [] ∧ zag (fun b _ => b = a + 3) M p.2) := by
  obtain ⟨r0, r1, r2, hs, hl, hc⟩ := h
  unfold f_X3_value
  refine zT_bd ?_
  generalize hA : evF (M q) (c.length + 1) c [] = ans
  refine zT_loop (fun m v => ∃ (d : List (Int32 × Int32 × Nat)) (st : List Int32) (p cnt : Nat), m = d.length ∧ p + d.length = c.length ∧ cnt ≤ p ∧ st.length ≤ 16 ∧ v.1 = nI st.length ∧ v.2.1 = nI p ∧ v.2.2.1 = nI cnt ∧ zag (fun b _ => b = a + 3) M v.2.2.2 ∧ zStk v.2.2.2 (a + 3) st ∧ zAt M (a + 1) (a + 2) p d ∧ evF (M q) (d.length + 1) d st = ans) c.length ⟨c, [], 0, 0, rfl, by omega, by omega, by simp, rfl, rfl, rfl, zag.rf, trivial, hc, hA⟩ (by omega) ?_
  rintro m ⟨x2, x3, x4, M1⟩ ⟨d, st, p, cnt, rfl, hp, hcnt, hst, e1, e2, e3, hg, hk, hd, he⟩
  simp only at e1 e2 e3 hg hk
  subst e1 e2 e3
  unfold b_X3_value_7
  simp only
  have ms : M1 a 3 = nI c.length := by rw [hg a 3 (by omega)]; exact hs
  rw [ms, r0, r1, r2]
  have g1 : ∀ k, M1 (a + 1) k = M (a + 1) k := fun k => hg _ k (by omega)
  have g2 : ∀ k, M1 (a + 2) k = M (a + 2) k := fun k => hg _ k (by omega)
  have gq : M1 q = M q := funext fun k => hg _ k (by omega)
  cases d with
  | nil =>
    have e : p = c.length := by simpa using hp
    have he2 : ans = 0 := by rw [← he]; rfl
    refine zT_if (fun _ => zT_some (zT_some ⟨he2.symm, hg⟩)) (fun _ => zT_if0 (nI_pos (by omega)) (zT_if1 (by subst e; exact nI_le (Nat.le_refl _) (by omega)) (zT_some (zT_some ⟨he2.symm, hg⟩))))
  | cons i d =>
  obtain ⟨k, x, n⟩ := i
  obtain ⟨c1, c2, c3, c4⟩ := hd
  have hp2 : p < c.length := by simp at hp; omega
  have hdl : d.length < (((k, x, n) :: d).length) := by simp
  rw [List.length_cons] at hp he
  refine zT_if0 (nI_ge (by omega) (by omega)) (zT_if0 (nI_pos (by omega)) (zT_if0 (nI_ge (by omega) (by omega)) (zT_if0 (by rw [nI_lit 400]; exact nI_ge (by omega) (by omega)) (zT_ck (zin_nI (by omega) (by omega)) (zT_ck (zin_nI (by omega) (by omega)) ?_)))))
  rw [ztn_nI (by omega), g1, g2, c1, nI_1 p]
  rw [evF] at he
  have push : ∀ (Q : ((Int32 × zM) ⊕ (zM) ⊕ (zM) ⊕ (zM) ⊕ (zM) ⊕ (zM)) → Prop) (v : Int32), st.length < 16 → evF (M q) (d.length + 1) d (v :: st) = ans → zT (j_X3_value_149 R M1 a q (nI st.length + 1) (nI (p + 1)) (nI cnt) (R a 2) (nI st.length) v) (Sum.elim (fun v1 => ∃ k1, k1 < ((k, x, n) :: d).length ∧ ∃ (d : List (Int32 × Int32 × Nat)) (st : List Int32) (p cnt : Nat), k1 = d.length ∧ p + d.length = c.length ∧ cnt ≤ p ∧ st.length ≤ 16 ∧ v1.1 = nI st.length ∧ v1.2.1 = nI p ∧ v1.2.2.1 = nI cnt ∧ zag (fun b _ => b = a + 3) M v1.2.2.2 ∧ zStk v1.2.2.2 (a + 3) st ∧ zAt M (a + 1) (a + 2) p d ∧ evF (M q) (d.length + 1) d st = ans) Q) := fun Q v hv hev => by
    unfold j_X3_value_149
    refine zT_ck (zin_nI hv (by omega)) (zT_lt (zT_some ?_))
    rw [ztn_nI (by omega), r2]
    exact ⟨d.length, hdl, d, v :: st, p + 1, cnt + 1, rfl, by omega, by omega, by simp; omega, by rw [List.length_cons]; exact nI_1 _, rfl, nI_1 _, hg.up rfl, ⟨zup_same, zStk.up st (Nat.le_refl _) hk⟩, c4, hev⟩
  by_cases k4 : k = 4
  · rw [if_pos k4] at he
    refine zT_if1 k4 (zT_some ?_)
    cases st with
    | nil =>
      show zT (if nI 0 ≤ 0 then some ((0 : Int32), M1) else zck (zin (nI 0 - 1) 16) (some (M1 (a + 3) (ztn (nI 0 - 1)), M1))) _
      exact zT_if1 (by decide) (zT_some ⟨he, hg⟩)
    | cons x st =>
      refine zT_if0 ?_ (zT_ck ?_ (zT_some ⟨?_, hg⟩))
      · show ¬ nI (st.length + 1) ≤ nI 0
        simp at hst
        exact nI_ge (by omega) (by omega)
      · show zin (nI (st.length + 1) - 1) 16 = true
        simp at hst
        rw [nI_sub1 (by omega), Nat.add_sub_cancel]
        exact zin_nI (by omega) (by omega)
      · show M1 (a + 3) (ztn (nI (st.length + 1) - 1)) = ans
        simp at hst
        rw [nI_sub1 (by omega), Nat.add_sub_cancel, ztn_nI (by omega), ← he]
        exact hk.1
  rw [if_neg k4] at he
  refine zT_if0 k4 ?_
  have dead : ∀ (Q : ((Int32 × zM) ⊕ (zM) ⊕ (zM) ⊕ (zM) ⊕ (zM) ⊕ (zM)) → Prop), 0 = ans → True := fun _ _ => trivial
  by_cases k1 : k = 1
  · rw [if_pos k1] at he
    refine zT_if1 k1 ?_
    unfold j_X3_value_91
    refine zT_if0 (nI_pos (by omega)) (zT_if ?_ ?_)
    · intro h
      by_cases h16 : 16 ≤ st.length
      · rw [if_pos h16] at he
        exact zT_some (zT_some ⟨he, hg⟩)
      · exact absurd h (by rw [nI_lit 16]; exact nI_ge (by omega) (by omega))
    · intro h
      have h16 : ¬ 16 ≤ st.length := fun q => h (by rw [nI_lit 16]; exact nI_le q (by omega))
      rw [if_neg h16] at he
      rw [c2 (Or.inl k1)]
      refine zT_if ?_ ?_
      · intro hx
        rw [if_pos hx] at he
        refine zT_if0 (by rw [k1]; decide) ?_
        unfold j_X3_value_126
        refine zT_if0 (by rw [k1]; decide) (push _ _ (by omega) he)
      · intro hx
        rw [if_neg hx] at he
        exact zT_some (zT_some ⟨he, hg⟩)
  rw [if_neg k1] at he
  refine zT_if0 k1 ?_
  by_cases k2 : k = 2
  · rw [if_pos k2] at he
    refine zT_if1 k2 ?_
    unfold j_X3_value_91
    refine zT_if0 (nI_pos (by omega)) (zT_if ?_ ?_)
    · intro h
      by_cases h16 : 16 ≤ st.length
      · rw [if_pos h16] at he
        exact zT_some (zT_some ⟨he, hg⟩)
      · exact absurd h (by rw [nI_lit 16]; exact nI_ge (by omega) (by omega))
    · intro h
      have h16 : ¬ 16 ≤ st.length := fun q => h (by rw [nI_lit 16]; exact nI_le q (by omega))
      rw [if_neg h16] at he
      rw [c2 (Or.inr k2)]
      refine zT_if ?_ ?_
      · intro hx
        rw [if_pos hx] at he
        refine zT_if1 k2 (zT_if ?_ ?_)
        · intro h7
          rw [if_pos h7] at he
          unfold j_X3_value_126
          rw [gq]
          refine zT_if1 k2 (zT_ck ?_ (push _ _ (by omega) he))
          obtain ⟨j, hj, rfl⟩ := nI_of (x := x) (by intro q; exact Int32.lt_irrefl (Int32.lt_of_lt_of_le q hx))
          refine zin_nI ?_ (by omega)
          rcases Nat.lt_or_ge j 7 with q | q
          · exact q
          · exact absurd h7 (by rw [nI_lit 7]; exact nI_nlt q (by omega))
        · intro h7
          rw [if_neg h7] at he
          exact zT_some (zT_some ⟨he, hg⟩)
      · intro hx
        rw [if_neg hx] at he
        exact zT_some (zT_some ⟨he, hg⟩)
  rw [if_neg k2] at he
  refine zT_if0 k2 ?_
  match st, hst, hk, he, push with
  | [], hst, hk, he, _ => exact zT_if1 (by show nI 0 < nI 2; decide) (zT_some (zT_some ⟨he, hg⟩))
  | [_], hst, hk, he, _ => exact zT_if1 (by show nI 1 < nI 2; decide) (zT_some (zT_some ⟨he, hg⟩))
  | y :: x1 :: st, hst, hk, he, _ =>
    simp only [List.length_cons, List.tail_cons, List.headD_cons] at hst he ⊢
    replace he : (if k = 3 then (if x1 < y then evF (M q) (d.length + 1) d st else evF (M q) (d.length + 1) (d.drop n) st) else if k = 47 ∧ y = 0 then 0 else evF (M q) (d.length + 1) d (combF k x1 y :: st)) = ans := by
      rw [← he]
      exact (if_neg (show ¬ st.length + 1 + 1 < 2 by omega)).symm
    refine zT_if0 (by rw [nI_lit 2]; exact nI_nlt (by omega) (by omega)) (zT_if1 (by rw [nI_lit 16]; exact nI_le (by omega) (by omega)) ?_)
    have e1 : nI (st.length + 1 + 1) - 1 = nI (st.length + 1) := by rw [nI_sub1 (by omega)]; rfl
    have e2 : nI (st.length + 1 + 1) - 2 = nI st.length := by
      rw [show (2 : Int32) = 1 + 1 by decide, show ∀ a b c : Int32, a - (b + c) = a - b - c by intro a b c; simp only [Int32.sub_eq_add_neg, Int32.neg_add, Int32.add_assoc], e1, nI_sub1 (by omega)]; rfl
    have e3 : nI (st.length + 1 + 1) + (-2) = nI st.length := by
      rw [show nI (st.length + 1 + 1) + (-2) = nI (st.length + 1 + 1) - 2 by rw [Int32.sub_eq_add_neg]]
      exact e2
    have e4 : nI (st.length + 1 + 1) + (-1) = nI (st.length + 1) := nI_dec (by omega)
    have e5 : nI (st.length + 1) - 1 = nI st.length := by rw [nI_sub1 (by omega)]; rfl
    have y1 : M1 (a + 3) (st.length + 1) = y := hk.1
    have y2 : M1 (a + 3) st.length = x1 := hk.2.1
    rw [e1, e2, e3, ztn_nI (by omega), ztn_nI (by omega), y1, y2]
    refine zT_ck (zin_nI (by omega) (by omega)) (zT_ck (zin_nI (by omega) (by omega)) ?_)
    have comb : ∀ (Q : ((Int32 × zM) ⊕ (zM) ⊕ (zM) ⊕ (zM) ⊕ (zM) ⊕ (zM)) → Prop), evF (M q) (d.length + 1) d (combF k x1 y :: st) = ans → zT (j_X3_value_225 R M1 a q (nI (st.length + 1 + 1)) (nI (p + 1)) (nI cnt) k y x1) (Sum.elim (fun v1 => ∃ k1, k1 < ((k, x, n) :: d).length ∧ ∃ (d : List (Int32 × Int32 × Nat)) (st : List Int32) (p cnt : Nat), k1 = d.length ∧ p + d.length = c.length ∧ cnt ≤ p ∧ st.length ≤ 16 ∧ v1.1 = nI st.length ∧ v1.2.1 = nI p ∧ v1.2.2.1 = nI cnt ∧ zag (fun b _ => b = a + 3) M v1.2.2.2 ∧ zStk v1.2.2.2 (a + 3) st ∧ zAt M (a + 1) (a + 2) p d ∧ evF (M q) (d.length + 1) d st = ans) Q) := fun Q hev => by
      unfold j_X3_value_225
      refine zT_bd (zT_eq (X3_combined _ _ _) ?_)
      rw [e4, e5]
      refine zT_ck (zin_nI (by omega) (by omega)) (zT_lt (zT_some ?_))
      rw [ztn_nI (by omega), r2]
      exact ⟨d.length, hdl, d, combF k x1 y :: st, p + 1, cnt + 1, rfl, by omega, by omega, by simp; omega, rfl, rfl, nI_1 _, hg.up rfl, ⟨zup_same, zStk.up st (Nat.le_refl _) hk.2.2⟩, c4, hev⟩
    by_cases k3 : k = 3
    · rw [if_pos k3] at he
      refine zT_if1 k3 (zT_if ?_ ?_)
      · intro hlt
        rw [if_pos hlt] at he
        exact zT_some ⟨d.length, hdl, d, st, p + 1, cnt + 1, rfl, by omega, by omega, by omega, rfl, rfl, nI_1 _, hg, hk.2.2, c4, he⟩
      · intro hlt
        rw [if_neg hlt] at he
        obtain ⟨n1, n2⟩ := c3 k3
        rw [n2]
        have hdr : (d.drop n).length = d.length - n := List.length_drop
        refine zT_some ⟨(d.drop n).length, by omega, d.drop n, st, p + 1 + n, cnt + 1, rfl, by omega, by omega, by omega, rfl, rfl, nI_1 _, hg, hk.2.2, zAt.drop n d (p + 1) n1 c4, ?_⟩
        rw [← he]
        exact evF_fuel _ _ _ _ (by omega) (by omega)
    · rw [if_neg k3] at he
      refine zT_if0 k3 (zT_if ?_ ?_)
      · intro k47
        refine zT_if ?_ ?_
        · intro hy
          rw [if_pos ⟨k47, hy⟩] at he
          exact zT_some (zT_some ⟨he, hg⟩)
        · intro hy
          rw [if_neg (fun q => hy q.2)] at he
          exact comb _ he
      · intro k47
        rw [if_neg (fun q => k47 q.1)] at he
        exact comb _ he

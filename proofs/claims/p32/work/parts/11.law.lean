/-! THE LAWS: a flat piece of the class's steps, and what it gives -/
def combF (k a b : Int32) : Int32 := if k = 42 then a * b else if k = 43 then a + b else if k = 44 then (if b = 0 then 0 else a / b) else if k = 45 then a - b else (if b = 0 then 0 else a / b)
theorem X3_combined (k a b : Int32) : f_X3_combined k a b = some (combF k a b) := by
  unfold f_X3_combined combF
  have z : ∀ (y : Int32), ¬ b = 0 → zck (znz b) (some y) = some y := fun y h => by
    unfold zck znz
    rw [if_pos (by simpa using h)]
  split
  · rfl
  split
  · rfl
  split
  · split
    · rfl
    · rename_i h; exact z _ h
  split
  · rfl
  split
  · rfl
  · rename_i h; exact z _ h
def evF (s : Nat → Int32) : Nat → List (Int32 × Int32 × Nat) → List Int32 → Int32
  | 0, _, _ => 0
  | _ + 1, [], _ => 0
  | m + 1, (k, x, n) :: c, st =>
    if k = 4 then st.headD 0
    else if k = 1 then (if 16 ≤ st.length then 0 else if 0 ≤ x then evF s m c (x :: st) else 0)
    else if k = 2 then (if 16 ≤ st.length then 0 else if 0 ≤ x then (if x < 7 then evF s m c (s (ztn x) :: st) else 0) else 0)
    else if st.length < 2 then 0
    else if k = 3 then (if st.tail.headD 0 < st.headD 0 then evF s m c st.tail.tail else evF s m (c.drop n) st.tail.tail)
    else if k = 47 ∧ st.headD 0 = 0 then 0
    else evF s m c (combF k (st.tail.headD 0) (st.headD 0) :: st.tail.tail)
theorem evF_fuel {s : Nat → Int32} : ∀ (m m1 : Nat) (c : List (Int32 × Int32 × Nat)) (st : List Int32), c.length < m → c.length < m1 → evF s m c st = evF s m1 c st
  | 0, _, _, _, h, _ => absurd h (by omega)
  | _ + 1, 0, _, _, _, h => absurd h (by omega)
  | _ + 1, _ + 1, [], _, _, _ => rfl
  | m + 1, m1 + 1, (k, x, n) :: c, st, h, h1 => by
    have ih : ∀ st, evF s m c st = evF s m1 c st := fun st => evF_fuel m m1 c st (by simp at h; omega) (by simp at h1; omega)
    have ih2 : ∀ st, evF s m (c.drop n) st = evF s m1 (c.drop n) st := fun st => evF_fuel m m1 (c.drop n) st (by simp at h ⊢; omega) (by simp at h1 ⊢; omega)
    simp only [evF, ih, ih2]
def zAt (M : zM) (A B : Nat) : Nat → List (Int32 × Int32 × Nat) → Prop
  | _, [] => True
  | p, (k, x, n) :: c => M A p = k ∧ (k = 1 ∨ k = 2 → M B p = x) ∧ (k = 3 → n ≤ c.length ∧ M B p = nI (p + 1 + n)) ∧ zAt M A B (p + 1) c
theorem zAt.eq {M M1 : zM} {A B : Nat} (h1 : ∀ k, M1 A k = M A k) (h2 : ∀ k, M1 B k = M B k) : ∀ (c : List (Int32 × Int32 × Nat)) (p : Nat), zAt M A B p c → zAt M1 A B p c
  | [], _, _ => trivial
  | (k, x, n) :: c, p, h => by
    obtain ⟨a, b, d, e⟩ := h
    exact ⟨by rw [h1]; exact a, fun q => by rw [h2]; exact b q, fun q => by rw [h2]; exact d q, zAt.eq h1 h2 c (p + 1) e⟩
theorem zAt.drop {M : zM} {A B : Nat} : ∀ (n : Nat) (c : List (Int32 × Int32 × Nat)) (p : Nat), n ≤ c.length → zAt M A B p c → zAt M A B (p + n) (c.drop n)
  | 0, _, _, _, h => h
  | n + 1, [], _, h, _ => absurd h (by simp)
  | n + 1, _ :: c, p, h, q => by
    have := zAt.drop n c (p + 1) (by simpa using h) q.2.2.2
    rw [show p + 1 + n = p + (n + 1) by omega] at this
    exact this
/-- the law at a: steps R a 0, args R a 1, stack R a 2; the code fills it -/
def zLw (R : zR) (M : zM) (a : Nat) (c : List (Int32 × Int32 × Nat)) : Prop := R a 0 = a + 1 ∧ R a 1 = a + 2 ∧ R a 2 = a + 3 ∧ M a 3 = nI c.length ∧ c.length ≤ 400 ∧ zAt M (a + 1) (a + 2) 0 c
def zStk (M : zM) (b : Nat) : List Int32 → Prop
  | [] => True
  | x :: st => M b st.length = x ∧ zStk M b st
theorem zStk.up {M : zM} {b n : Nat} {v : Int32} : ∀ (st : List Int32), st.length ≤ n → zStk M b st → zStk (zup M b n v) b st
  | [], _, _ => trivial
  | x :: st, h, q => ⟨by rw [zup_k (by simp at h; omega)]; exact q.1, zStk.up st (by simp at h; omega) q.2⟩
theorem X3_value {R : zR} {M : zM} {a q : Nat} {c : List (Int32 × Int32 × Nat)} (h : zLw R M a c) (hq : q < a ∨ a + 4 ≤ q) : zT (f_X3_value R M a q) (fun p => p.1 = evF (M q) (c.length + 1) c [] ∧ zag (fun b _ => b = a + 3) M p.2) := by
  obtain ⟨r0, r1, r2, hs, hl, hc⟩ := h
  unfold f_X3_value
  refine zT_bd ?_
  generalize hA : evF (M q) (c.length + 1) c [] = ans
  refine zT_loop (fun m v => ∃ (d : List (Int32 × Int32 × Nat)) (st : List Int32) (p cnt : Nat), m = d.length ∧ p + d.length = c.length ∧ cnt ≤ p ∧ st.length ≤ 16 ∧ v.1 = nI st.length ∧ v.2.1 = nI p ∧ v.2.2.1 = nI cnt ∧ zag (fun b _ => b = a + 3) M v.2.2.2 ∧ zStk v.2.2.2 (a + 3) st ∧ zAt M (a + 1) (a + 2) p d ∧ evF (M q) (d.length + 1) d st = ans) c.length ⟨c, [], 0, 0, rfl, by omega, by omega, by simp, rfl, rfl, rfl, zag.rf, trivial, hc, hA⟩ (by omega) ?_
  rintro m ⟨x2, x3, x4, M1⟩ ⟨d, st, p, cnt, rfl, hp, hcnt, hst, e1, e2, e3, hg, hk, hd, he⟩
  simp only at e1 e2 e3 hg hk
  subst e1 e2 e3
  unfold b_X3_value_7
  simp only
  have ms : M1 a 3 = nI c.length := by rw [hg a 3 (by omega)]; exact hs
  rw [ms, r0, r1, r2]
  have g1 : ∀ k, M1 (a + 1) k = M (a + 1) k := fun k => hg _ k (by omega)
  have g2 : ∀ k, M1 (a + 2) k = M (a + 2) k := fun k => hg _ k (by omega)
  have gq : M1 q = M q := funext fun k => hg _ k (by omega)
  cases d with
  | nil =>
    have e : p = c.length := by simpa using hp
    have he2 : ans = 0 := by rw [← he]; rfl
    refine zT_if (fun _ => zT_some (zT_some ⟨he2.symm, hg⟩)) (fun _ => zT_if0 (nI_pos (by omega)) (zT_if1 (by subst e; exact nI_le (Nat.le_refl _) (by omega)) (zT_some (zT_some ⟨he2.symm, hg⟩))))
  | cons i d =>
  obtain ⟨k, x, n⟩ := i
  obtain ⟨c1, c2, c3, c4⟩ := hd
  have hp2 : p < c.length := by simp at hp; omega
  have hdl : d.length < (((k, x, n) :: d).length) := by simp
  rw [List.length_cons] at hp he
  refine zT_if0 (nI_ge (by omega) (by omega)) (zT_if0 (nI_pos (by omega)) (zT_if0 (nI_ge (by omega) (by omega)) (zT_if0 (by rw [nI_lit 400]; exact nI_ge (by omega) (by omega)) (zT_ck (zin_nI (by omega) (by omega)) (zT_ck (zin_nI (by omega) (by omega)) ?_)))))
  rw [ztn_nI (by omega), g1, g2, c1, nI_1 p]
  rw [evF] at he
  have push : ∀ (Q : ((Int32 × zM) ⊕ (zM) ⊕ (zM) ⊕ (zM) ⊕ (zM) ⊕ (zM)) → Prop) (v : Int32), st.length < 16 → evF (M q) (d.length + 1) d (v :: st) = ans → zT (j_X3_value_149 R M1 a q (nI st.length + 1) (nI (p + 1)) (nI cnt) (R a 2) (nI st.length) v) (Sum.elim (fun v1 => ∃ k1, k1 < ((k, x, n) :: d).length ∧ ∃ (d : List (Int32 × Int32 × Nat)) (st : List Int32) (p cnt : Nat), k1 = d.length ∧ p + d.length = c.length ∧ cnt ≤ p ∧ st.length ≤ 16 ∧ v1.1 = nI st.length ∧ v1.2.1 = nI p ∧ v1.2.2.1 = nI cnt ∧ zag (fun b _ => b = a + 3) M v1.2.2.2 ∧ zStk v1.2.2.2 (a + 3) st ∧ zAt M (a + 1) (a + 2) p d ∧ evF (M q) (d.length + 1) d st = ans) Q) := fun Q v hv hev => by
    unfold j_X3_value_149
    refine zT_ck (zin_nI hv (by omega)) (zT_lt (zT_some ?_))
    rw [ztn_nI (by omega), r2]
    exact ⟨d.length, hdl, d, v :: st, p + 1, cnt + 1, rfl, by omega, by omega, by simp; omega, by rw [List.length_cons]; exact nI_1 _, rfl, nI_1 _, hg.up rfl, ⟨zup_same, zStk.up st (Nat.le_refl _) hk⟩, c4, hev⟩
  by_cases k4 : k = 4
  · rw [if_pos k4] at he
    refine zT_if1 k4 (zT_some ?_)
    cases st with
    | nil =>
      show zT (if nI 0 ≤ 0 then some ((0 : Int32), M1) else zck (zin (nI 0 - 1) 16) (some (M1 (a + 3) (ztn (nI 0 - 1)), M1))) _
      exact zT_if1 (by decide) (zT_some ⟨he, hg⟩)
    | cons x st =>
      refine zT_if0 ?_ (zT_ck ?_ (zT_some ⟨?_, hg⟩))
      · show ¬ nI (st.length + 1) ≤ nI 0
        simp at hst
        exact nI_ge (by omega) (by omega)
      · show zin (nI (st.length + 1) - 1) 16 = true
        simp at hst
        rw [nI_sub1 (by omega), Nat.add_sub_cancel]
        exact zin_nI (by omega) (by omega)
      · show M1 (a + 3) (ztn (nI (st.length + 1) - 1)) = ans
        simp at hst
        rw [nI_sub1 (by omega), Nat.add_sub_cancel, ztn_nI (by omega), ← he]
        exact hk.1
  rw [if_neg k4] at he
  refine zT_if0 k4 ?_
  have dead : ∀ (Q : ((Int32 × zM) ⊕ (zM) ⊕ (zM) ⊕ (zM) ⊕ (zM) ⊕ (zM)) → Prop), 0 = ans → True := fun _ _ => trivial
  by_cases k1 : k = 1
  · rw [if_pos k1] at he
    refine zT_if1 k1 ?_
    unfold j_X3_value_91
    refine zT_if0 (nI_pos (by omega)) (zT_if ?_ ?_)
    · intro h
      by_cases h16 : 16 ≤ st.length
      · rw [if_pos h16] at he
        exact zT_some (zT_some ⟨he, hg⟩)
      · exact absurd h (by rw [nI_lit 16]; exact nI_ge (by omega) (by omega))
    · intro h
      have h16 : ¬ 16 ≤ st.length := fun q => h (by rw [nI_lit 16]; exact nI_le q (by omega))
      rw [if_neg h16] at he
      rw [c2 (Or.inl k1)]
      refine zT_if ?_ ?_
      · intro hx
        rw [if_pos hx] at he
        refine zT_if0 (by rw [k1]; decide) ?_
        unfold j_X3_value_126
        refine zT_if0 (by rw [k1]; decide) (push _ _ (by omega) he)
      · intro hx
        rw [if_neg hx] at he
        exact zT_some (zT_some ⟨he, hg⟩)
  rw [if_neg k1] at he
  refine zT_if0 k1 ?_
  by_cases k2 : k = 2
  · rw [if_pos k2] at he
    refine zT_if1 k2 ?_
    unfold j_X3_value_91
    refine zT_if0 (nI_pos (by omega)) (zT_if ?_ ?_)
    · intro h
      by_cases h16 : 16 ≤ st.length
      · rw [if_pos h16] at he
        exact zT_some (zT_some ⟨he, hg⟩)
      · exact absurd h (by rw [nI_lit 16]; exact nI_ge (by omega) (by omega))
    · intro h
      have h16 : ¬ 16 ≤ st.length := fun q => h (by rw [nI_lit 16]; exact nI_le q (by omega))
      rw [if_neg h16] at he
      rw [c2 (Or.inr k2)]
      refine zT_if ?_ ?_
      · intro hx
        rw [if_pos hx] at he
        refine zT_if1 k2 (zT_if ?_ ?_)
        · intro h7
          rw [if_pos h7] at he
          unfold j_X3_value_126
          rw [gq]
          refine zT_if1 k2 (zT_ck ?_ (push _ _ (by omega) he))
          obtain ⟨j, hj, rfl⟩ := nI_of (x := x) (by intro q; exact Int32.lt_irrefl (Int32.lt_of_lt_of_le q hx))
          refine zin_nI ?_ (by omega)
          rcases Nat.lt_or_ge j 7 with q | q
          · exact q
          · exact absurd h7 (by rw [nI_lit 7]; exact nI_nlt q (by omega))
        · intro h7
          rw [if_neg h7] at he
          exact zT_some (zT_some ⟨he, hg⟩)
      · intro hx
        rw [if_neg hx] at he
        exact zT_some (zT_some ⟨he, hg⟩)
  rw [if_neg k2] at he
  refine zT_if0 k2 ?_
  match st, hst, hk, he, push with
  | [], hst, hk, he, _ => exact zT_if1 (by show nI 0 < nI 2; decide) (zT_some (zT_some ⟨he, hg⟩))
  | [_], hst, hk, he, _ => exact zT_if1 (by show nI 1 < nI 2; decide) (zT_some (zT_some ⟨he, hg⟩))
  | y :: x1 :: st, hst, hk, he, _ =>
    simp only [List.length_cons, List.tail_cons, List.headD_cons] at hst he ⊢
    replace he : (if k = 3 then (if x1 < y then evF (M q) (d.length + 1) d st else evF (M q) (d.length + 1) (d.drop n) st) else if k = 47 ∧ y = 0 then 0 else evF (M q) (d.length + 1) d (combF k x1 y :: st)) = ans := by
      rw [← he]
      exact (if_neg (show ¬ st.length + 1 + 1 < 2 by omega)).symm
    refine zT_if0 (by rw [nI_lit 2]; exact nI_nlt (by omega) (by omega)) (zT_if1 (by rw [nI_lit 16]; exact nI_le (by omega) (by omega)) ?_)
    have e1 : nI (st.length + 1 + 1) - 1 = nI (st.length + 1) := by rw [nI_sub1 (by omega)]; rfl
    have e2 : nI (st.length + 1 + 1) - 2 = nI st.length := by
      rw [show (2 : Int32) = 1 + 1 by decide, show ∀ a b c : Int32, a - (b + c) = a - b - c by intro a b c; simp only [Int32.sub_eq_add_neg, Int32.neg_add, Int32.add_assoc], e1, nI_sub1 (by omega)]; rfl
    have e3 : nI (st.length + 1 + 1) + (-2) = nI st.length := by
      rw [show nI (st.length + 1 + 1) + (-2) = nI (st.length + 1 + 1) - 2 by rw [Int32.sub_eq_add_neg]]
      exact e2
    have e4 : nI (st.length + 1 + 1) + (-1) = nI (st.length + 1) := nI_dec (by omega)
    have e5 : nI (st.length + 1) - 1 = nI st.length := by rw [nI_sub1 (by omega)]; rfl
    have y1 : M1 (a + 3) (st.length + 1) = y := hk.1
    have y2 : M1 (a + 3) st.length = x1 := hk.2.1
    rw [e1, e2, e3, ztn_nI (by omega), ztn_nI (by omega), y1, y2]
    refine zT_ck (zin_nI (by omega) (by omega)) (zT_ck (zin_nI (by omega) (by omega)) ?_)
    have comb : ∀ (Q : ((Int32 × zM) ⊕ (zM) ⊕ (zM) ⊕ (zM) ⊕ (zM) ⊕ (zM)) → Prop), evF (M q) (d.length + 1) d (combF k x1 y :: st) = ans → zT (j_X3_value_225 R M1 a q (nI (st.length + 1 + 1)) (nI (p + 1)) (nI cnt) k y x1) (Sum.elim (fun v1 => ∃ k1, k1 < ((k, x, n) :: d).length ∧ ∃ (d : List (Int32 × Int32 × Nat)) (st : List Int32) (p cnt : Nat), k1 = d.length ∧ p + d.length = c.length ∧ cnt ≤ p ∧ st.length ≤ 16 ∧ v1.1 = nI st.length ∧ v1.2.1 = nI p ∧ v1.2.2.1 = nI cnt ∧ zag (fun b _ => b = a + 3) M v1.2.2.2 ∧ zStk v1.2.2.2 (a + 3) st ∧ zAt M (a + 1) (a + 2) p d ∧ evF (M q) (d.length + 1) d st = ans) Q) := fun Q hev => by
      unfold j_X3_value_225
      refine zT_bd (zT_eq (X3_combined _ _ _) ?_)
      rw [e4, e5]
      refine zT_ck (zin_nI (by omega) (by omega)) (zT_lt (zT_some ?_))
      rw [ztn_nI (by omega), r2]
      exact ⟨d.length, hdl, d, combF k x1 y :: st, p + 1, cnt + 1, rfl, by omega, by omega, by simp; omega, rfl, rfl, nI_1 _, hg.up rfl, ⟨zup_same, zStk.up st (Nat.le_refl _) hk.2.2⟩, c4, hev⟩
    by_cases k3 : k = 3
    · rw [if_pos k3] at he
      refine zT_if1 k3 (zT_if ?_ ?_)
      · intro hlt
        rw [if_pos hlt] at he
        exact zT_some ⟨d.length, hdl, d, st, p + 1, cnt + 1, rfl, by omega, by omega, by omega, rfl, rfl, nI_1 _, hg, hk.2.2, c4, he⟩
      · intro hlt
        rw [if_neg hlt] at he
        obtain ⟨n1, n2⟩ := c3 k3
        rw [n2]
        have hdr : (d.drop n).length = d.length - n := List.length_drop
        refine zT_some ⟨(d.drop n).length, by omega, d.drop n, st, p + 1 + n, cnt + 1, rfl, by omega, by omega, by omega, rfl, rfl, nI_1 _, hg, hk.2.2, zAt.drop n d (p + 1) n1 c4, ?_⟩
        rw [← he]
        exact evF_fuel _ _ _ _ (by omega) (by omega)
    · rw [if_neg k3] at he
      refine zT_if0 k3 (zT_if ?_ ?_)
      · intro k47
        refine zT_if ?_ ?_
        · intro hy
          rw [if_pos ⟨k47, hy⟩] at he
          exact zT_some (zT_some ⟨he, hg⟩)
        · intro hy
          rw [if_neg (fun q => hy q.2)] at he
          exact comb _ he
      · intro k47
        rw [if_neg (fun q => k47 q.1)] at he
        exact comb _ he
/-! THE LAWS: the reference's side -/
def opF (k a b : Int32) : Int32 := if k = 2 then a + b else if k = 3 then a - b else if k = 4 then a * b else a / b
def evO (s : Nat → Int32) : List (Int32 × Int32) → List Int32 → Option (List Int32)
  | [], st => some st
  | (k, x) :: e, st =>
    if k = 0 then evO s e (x :: st)
    else if k = 1 then evO s e (s (ztn x) :: st)
    else if k = 5 ∧ st.headD 0 = 0 then none
    else evO s e (opF k (st.tail.headD 0) (st.headD 0) :: st.tail.tail)
def dO : List (Int32 × Int32) → Nat → Prop
  | [], d => d = 1
  | (k, x) :: e, d =>
    if k = 0 then d < 15 ∧ 0 ≤ x ∧ dO e (d + 1)
    else if k = 1 then d < 15 ∧ 0 ≤ x ∧ x < 7 ∧ dO e (d + 1)
    else (k = 2 ∨ k = 3 ∨ k = 4 ∨ k = 5) ∧ 2 ≤ d ∧ dO e (d - 1)
theorem nn_of {x : Int32} (h : 0 ≤ x) : ∃ j : Nat, j < 2 ^ 31 ∧ x = nI j := nI_of (by intro q; exact Int32.lt_irrefl (Int32.lt_of_lt_of_le q h))
theorem nn_lt {x : Int32} {n : Nat} (h : 0 ≤ x) (h2 : x < nI n) (hn : n < 2 ^ 31) : ∃ j : Nat, j < n ∧ x = nI j := by
  obtain ⟨j, hj, rfl⟩ := nn_of h
  refine ⟨j, ?_, rfl⟩
  rcases Nat.lt_or_ge j n with q | q
  · exact q
  · exact absurd h2 (nI_nlt q (by omega))
/-- where the reference's arrays lie -/
def mdA : Nat → Nat
  | 1 => 243 | 3 => 244 | 5 => 245 | 6 => 246 | 7 => 247 | 8 => 248 | 9 => 249 | 21 => 250 | 22 => 251 | 23 => 252 | 24 => 253 | 25 => 254 | 26 => 255 | 27 => 256 | 28 => 257 | 29 => 258 | 30 => 259 | 32 => 260 | 33 => 261 | 34 => 262 | 35 => 263 | 36 => 264 | 38 => 265 | 39 => 266 | 40 => 267 | 42 => 268 | 43 => 269 | 45 => 270 | 46 => 271 | 47 => 272 | 49 => 273 | 50 => 274 | 52 => 275 | 54 => 276 | 55 => 277 | 56 => 278 | 57 => 279 | 58 => 280 | 59 => 281 | 60 => 282 | _ => 0
def zMd (R : zR) : Prop := ∀ k, mdA k ≠ 0 → R 242 k = mdA k
theorem zMd.at {R : zR} (h : zMd R) {k b : Nat} (e : mdA k = b) (hb : b ≠ 0) : R 242 k = b := by
  rw [h k (by rw [e]; exact hb), e]
def zCd (M : zM) : Nat → List (Int32 × Int32) → Prop
  | _, [] => True
  | p, (k, x) :: e => M 265 p = k ∧ M 266 p = x ∧ zCd M (p + 1) e
theorem zCd.eq {M M1 : zM} (h1 : ∀ k, M1 265 k = M 265 k) (h2 : ∀ k, M1 266 k = M 266 k) : ∀ (e : List (Int32 × Int32)) (p : Nat), zCd M p e → zCd M1 p e
  | [], _, _ => trivial
  | (k, x) :: e, p, h => ⟨by rw [h1]; exact h.1, by rw [h2]; exact h.2.1, zCd.eq h1 h2 e (p + 1) h.2.2⟩
theorem zCd.app {M : zM} : ∀ (e f : List (Int32 × Int32)) (p : Nat), zCd M p (e ++ f) ↔ zCd M p e ∧ zCd M (p + e.length) f
  | [], f, p => by simp [zCd]
  | (k, x) :: e, f, p => by
    have := zCd.app (M := M) e f (p + 1)
    simp only [List.cons_append, zCd, List.length_cons, this, show p + (e.length + 1) = p + 1 + e.length by omega]
    exact ⟨fun ⟨a, b, c, d⟩ => ⟨⟨a, b, c⟩, d⟩, fun ⟨⟨a, b, c⟩, d⟩ => ⟨a, b, c, d⟩⟩
def evE (s : Nat → Int32) (e : List (Int32 × Int32)) : Option Int32 := (evO s e []).map (fun st => st.headD 0)
theorem X12_termOf {R : zR} {M : zM} {p : Nat} {e : List (Int32 × Int32)} (hR : zMd R) (hc : zCd M p e) (hd : dO e 0) (hl : p + e.length ≤ 840) : zT (f_X12_termOf R M 242 (nI p) (nI (p + e.length))) (fun r => r.1 = (evE (M 268) e).getD 0 ∧ r.2 242 44 = (if (evE (M 268) e).isSome then M 242 44 else 1) ∧ zag (fun b k => b = 269 ∨ (b = 242 ∧ k = 44)) M r.2) := by
  unfold f_X12_termOf
  refine zT_bd ?_
  generalize hA : evO (M 268) e [] = ans
  have hE : evE (M 268) e = ans.map (fun st => st.headD 0) := by unfold evE; rw [hA]
  rw [hE]
  have r43 : R 242 43 = 269 := hR.at rfl (by decide)
  have r38 : R 242 38 = 265 := hR.at rfl (by decide)
  have r39 : R 242 39 = 266 := hR.at rfl (by decide)
  have r42 : R 242 42 = 268 := hR.at rfl (by decide)
  refine zT_loop (fun m v => ∃ (d : List (Int32 × Int32)) (st : List Int32) (j : Nat), m = d.length ∧ j + d.length = p + e.length ∧ st.length ≤ 15 ∧ v.1 = nI st.length ∧ v.2.1 = nI j ∧ zag (fun b _ => b = 269) M v.2.2 ∧ zStk v.2.2 269 st ∧ zCd M j d ∧ dO d st.length ∧ evO (M 268) d st = ans) e.length ⟨e, [], p, rfl, rfl, by simp, rfl, rfl, zag.rf, trivial, hc, hd, hA⟩ (by omega) ?_
  rintro m ⟨x3, x4, M1⟩ ⟨d, st, j, rfl, hj, hst, e1, e2, hg, hk, hcd, hdd, he⟩
  simp only at e1 e2 hg hk
  subst e1 e2
  unfold b_X12_termOf_5
  simp only
  rw [r38, r39, r42, r43]
  have g1 : ∀ k, M1 265 k = M 265 k := fun k => hg _ k (by omega)
  have g2 : ∀ k, M1 266 k = M 266 k := fun k => hg _ k (by omega)
  have g3 : ∀ k, M1 268 k = M 268 k := fun k => hg _ k (by omega)
  have g4 : M1 242 44 = M 242 44 := hg _ _ (by omega)
  cases d with
  | nil =>
    refine zT_if1 (by simp at hj; subst hj; exact nI_le (Nat.le_refl _) (by omega)) (zT_some ?_)
    rw [← he]
    have h1 : st.length = 1 := hdd
    match st, h1, hk with
    | [y], _, hk =>
      show zT (some (M1 269 (ztn 0), M1)) _
      exact zT_some ⟨hk.1, g4, hg.mo fun b k q => Or.inl q⟩
  | cons i d =>
  obtain ⟨k, x⟩ := i
  obtain ⟨c1, c2, c3⟩ := hcd
  have hdl : d.length < (((k, x) :: d).length) := by simp
  rw [List.length_cons] at hj
  refine zT_if0 (nI_ge (by omega) (by omega)) (zT_ck (zin_nI (by omega) (by omega)) ?_)
  rw [ztn_nI (by omega), g1, g2, c1, c2]
  rw [evO] at he
  rw [dO] at hdd
  have push : ∀ (Q : (zM ⊕ zM) → Prop) (v : Int32), st.length < 15 → dO d (st.length + 1) → evO (M 268) d (v :: st) = ans → zT (j_X12_termOf_58 R M1 242 (nI (p + e.length)) (nI st.length) (nI j) 269 (nI st.length) v) (Sum.elim (fun v1 => ∃ k1, k1 < ((k, x) :: d).length ∧ ∃ (d : List (Int32 × Int32)) (st : List Int32) (j : Nat), k1 = d.length ∧ j + d.length = p + e.length ∧ st.length ≤ 15 ∧ v1.1 = nI st.length ∧ v1.2.1 = nI j ∧ zag (fun b _ => b = 269) M v1.2.2 ∧ zStk v1.2.2 269 st ∧ zCd M j d ∧ dO d st.length ∧ evO (M 268) d st = ans) Q) := fun Q v hv hdd2 hev => by
    unfold j_X12_termOf_58
    refine zT_ck (zin_nI (by omega) (by omega)) (zT_lt (zT_some ?_))
    rw [ztn_nI (by omega)]
    exact ⟨d.length, hdl, d, v :: st, j + 1, rfl, by omega, by simp; omega, by rw [List.length_cons]; exact nI_1 _, nI_1 _, hg.up rfl, ⟨zup_same (M := M1) (a := 269), zStk.up st (Nat.le_refl _) hk⟩, c3, hdd2, hev⟩
  by_cases k0 : k = 0
  · subst k0
    rw [if_pos rfl] at he hdd
    exact zT_if0 (by decide) (zT_if1 rfl (zT_ck (zin_nI (by omega) (by omega)) (push _ _ hdd.1 hdd.2.2 he)))
  by_cases k1 : k = 1
  · subst k1
    rw [if_neg (by decide), if_pos rfl] at he hdd
    obtain ⟨i, hi, rfl⟩ := nn_lt (n := 7) hdd.2.1 hdd.2.2.1 (by omega)
    refine zT_if0 (by decide) (zT_if0 (by decide) (zT_ck (zin_nI (by omega) (by omega)) (zT_ck (zin_nI (by omega) (by omega)) ?_)))
    rw [g3]
    exact push _ _ hdd.1 hdd.2.2.2 he
  rw [if_neg k0, if_neg k1] at he hdd
  obtain ⟨hkk, h2, hdd⟩ := hdd
  have k2 : (2 : Int32) ≤ k := by rcases hkk with rfl | rfl | rfl | rfl <;> decide
  refine zT_if1 k2 ?_
  match st, hst, hk, he, h2, hdd with
  | [], _, _, _, h2, _ => exact absurd h2 (by simp)
  | [_], _, _, _, h2, _ => exact absurd h2 (by simp)
  | y :: x1 :: st, hst, hk, he, _, hdd =>
    simp only [List.length_cons] at hst hdd ⊢
    replace he : (if k = 5 ∧ y = 0 then none else evO (M 268) d (opF k x1 y :: st)) = ans := he
    have e4 : nI (st.length + 1 + 1) + (-1) = nI (st.length + 1) := nI_dec (by omega)
    have e5 : nI (st.length + 1) - 1 = nI st.length := by rw [nI_sub1 (by omega)]; rfl
    have y1 : M1 269 (st.length + 1) = y := hk.1
    have y2 : M1 269 st.length = x1 := hk.2.1
    rw [e4, e5, ztn_nI (by omega), ztn_nI (by omega), y1, y2]
    refine zT_ck (zin_nI (by omega) (by omega)) (zT_ck (zin_nI (by omega) (by omega)) ?_)
    have comb : ∀ (Q : (zM ⊕ zM) → Prop), ¬ (k = 5 ∧ y = 0) → evO (M 268) d (opF k x1 y :: st) = ans → zT (j_X12_termOf_104 R M1 242 (nI (p + e.length)) (nI (st.length + 1)) (nI j) k x1 y) (Sum.elim (fun v1 => ∃ k1, k1 < ((k, x) :: d).length ∧ ∃ (d : List (Int32 × Int32)) (st : List Int32) (j : Nat), k1 = d.length ∧ j + d.length = p + e.length ∧ st.length ≤ 15 ∧ v1.1 = nI st.length ∧ v1.2.1 = nI j ∧ zag (fun b _ => b = 269) M v1.2.2 ∧ zStk v1.2.2 269 st ∧ zCd M j d ∧ dO d st.length ∧ evO (M 268) d st = ans) Q) := fun Q hny hev => by
      have fin : ∀ v, v = opF k x1 y → zT (j_X12_termOf_158 R M1 242 (nI (p + e.length)) (nI (st.length + 1)) (nI j) 269 (nI st.length) v) (Sum.elim (fun v1 => ∃ k1, k1 < ((k, x) :: d).length ∧ ∃ (d : List (Int32 × Int32)) (st : List Int32) (j : Nat), k1 = d.length ∧ j + d.length = p + e.length ∧ st.length ≤ 15 ∧ v1.1 = nI st.length ∧ v1.2.1 = nI j ∧ zag (fun b _ => b = 269) M v1.2.2 ∧ zStk v1.2.2 269 st ∧ zCd M j d ∧ dO d st.length ∧ evO (M 268) d st = ans) Q) := fun v hv => by
        subst hv
        unfold j_X12_termOf_158
        refine zT_ck (zin_nI (by omega) (by omega)) (zT_lt (zT_some ?_))
        rw [ztn_nI (by omega)]
        exact ⟨d.length, hdl, d, opF k x1 y :: st, j + 1, rfl, by omega, by simp; omega, rfl, nI_1 _, hg.up rfl, ⟨zup_same (M := M1) (a := 269), zStk.up st (Nat.le_refl _) hk.2.2⟩, c3, hdd, hev⟩
      unfold j_X12_termOf_104
      rw [r43, e5]
      rcases hkk with rfl | rfl | rfl | rfl
      · exact zT_if1 rfl (fin _ rfl)
      · exact zT_if0 (by decide) (zT_if1 rfl (fin _ rfl))
      · exact zT_if0 (by decide) (zT_if0 (by decide) (zT_if1 rfl (fin _ rfl)))
      · refine zT_if0 (by decide) (zT_if0 (by decide) (zT_if0 (by decide) (zT_ck ?_ (fin _ rfl))))
        unfold znz
        simpa using hny
    by_cases k5 : k = 5
    · refine zT_if1 k5 (zT_if ?_ ?_)
      · intro hy
        rw [if_pos ⟨k5, hy⟩] at he
        refine zT_some ?_
        show zT (some ((0 : Int32), zup M1 242 44 1)) _
        rw [← he]
        exact zT_some ⟨rfl, by show zup M1 242 44 1 242 44 = _; rw [zup_same]; simp, (hg.mo fun b k q => Or.inl q).up (Or.inr ⟨rfl, rfl⟩)⟩
      · intro hy
        rw [if_neg (fun q => hy q.2)] at he
        exact comb _ (fun q => hy q.2) he
    · rw [if_neg (fun q => k5 q.1)] at he
      exact zT_if0 k5 (comb _ (fun q => k5 q.1) he)
/-! THE LAWS: one law, said once -/
abbrev zEx := List (Int32 × Int32)
abbrev zPr := List (Option (zEx × zEx) × zEx)
def evT (s : Nat → Int32) (a b : zEx) : Option Bool := (evE s a).bind fun x => (evE s b).map fun y => decide (x < y)
def evP (s : Nat → Int32) : zPr → Int32
  | [] => 0
  | (none, e) :: _ => (evE s e).getD 0
  | (some (a, b), e) :: ps => (evT s a b).elim 0 fun t => if t then (evE s e).getD 0 else evP s ps
def dB : Option (zEx × zEx) × zEx → Prop
  | (none, e) => dO e 0
  | (some (a, b), e) => dO a 0 ∧ dO b 0 ∧ dO e 0
def dP (ps : zPr) : Prop := ∀ b, b ∈ ps → dB b
def stepOf (k : Int32) : Int32 := if k = 0 then 1 else if k = 1 then 2 else if k = 2 then 43 else if k = 3 then 45 else if k = 4 then 42 else 47
def fE (e : zEx) : List (Int32 × Int32 × Nat) := e.map fun i => (stepOf i.1, i.2, 0)
def fB : Option (zEx × zEx) × zEx → List (Int32 × Int32 × Nat)
  | (none, e) => fE e ++ [(4, 0, 0)]
  | (some (a, b), e) => fE a ++ (fE b ++ ((3, 0, e.length + 1) :: (fE e ++ [(4, 0, 0)])))
def fP : zPr → List (Int32 × Int32 × Nat)
  | [] => []
  | b :: ps => fB b ++ fP ps
def evG (s : Nat → Int32) (c : List (Int32 × Int32 × Nat)) (st : List Int32) : Int32 := evF s (c.length + 1) c st
theorem evG_cons {s : Nat → Int32} {k x : Int32} {n : Nat} {c : List (Int32 × Int32 × Nat)} {st : List Int32} : evG s ((k, x, n) :: c) st =
    if k = 4 then st.headD 0
    else if k = 1 then (if 16 ≤ st.length then 0 else if 0 ≤ x then evG s c (x :: st) else 0)
    else if k = 2 then (if 16 ≤ st.length then 0 else if 0 ≤ x then (if x < 7 then evG s c (s (ztn x) :: st) else 0) else 0)
    else if st.length < 2 then 0
    else if k = 3 then (if st.tail.headD 0 < st.headD 0 then evG s c st.tail.tail else evG s (c.drop n) st.tail.tail)
    else if k = 47 ∧ st.headD 0 = 0 then 0
    else evG s c (combF k (st.tail.headD 0) (st.headD 0) :: st.tail.tail) := by
  unfold evG
  rw [evF, List.length_cons, evF_fuel (c.length + 1) ((c.drop n).length + 1) (c.drop n) st.tail.tail (by simp; omega) (by omega)]
theorem evO_len {s : Nat → Int32} : ∀ (e : zEx) (st st1 : List Int32), dO e st.length → evO s e st = some st1 → st1.length = 1
  | [], st, st1, hd, he => by
    obtain rfl : st = st1 := by simpa [evO] using he
    exact hd
  | (k, x) :: e, st, st1, hd, he => by
    rw [dO] at hd
    rw [evO] at he
    by_cases k0 : k = 0
    · rw [if_pos k0] at hd he
      exact evO_len e (x :: st) _ hd.2.2 he
    rw [if_neg k0] at hd he
    by_cases k1 : k = 1
    · rw [if_pos k1] at hd he
      exact evO_len e (s (ztn x) :: st) _ hd.2.2.2 he
    rw [if_neg k1] at hd he
    by_cases k5 : k = 5 ∧ st.headD 0 = 0
    · rw [if_pos k5] at he
      exact absurd he (by simp)
    rw [if_neg k5] at he
    refine evO_len e _ _ ?_ he
    have : (opF k (st.tail.headD 0) (st.headD 0) :: st.tail.tail).length = st.length - 1 := by simp; omega
    rw [this]
    exact hd.2.2
theorem combF_op {k a b : Int32} (hk : k = 2 ∨ k = 3 ∨ k = 4 ∨ k = 5) (h : ¬ (k = 5 ∧ b = 0)) : combF (stepOf k) a b = opF k a b := by
  unfold combF stepOf opF
  rcases hk with rfl | rfl | rfl | rfl
  · simp
  · simp
  · simp
  · have : ¬ b = 0 := fun q => h ⟨rfl, q⟩
    simp [this]
theorem evG_fE {s : Nat → Int32} {c : List (Int32 × Int32 × Nat)} {base : List Int32} (hb : base.length ≤ 1) : ∀ (e : zEx) (st : List Int32), dO e st.length → evG s (fE e ++ c) (st ++ base) = (evO s e st).elim 0 fun st1 => evG s c (st1 ++ base)
  | [], st, _ => rfl
  | (k, x) :: e, st, hd => by
    rw [dO] at hd
    rw [evO, show fE ((k, x) :: e) ++ c = (stepOf k, x, 0) :: (fE e ++ c) from rfl, evG_cons]
    by_cases k0 : k = 0
    · rw [if_pos k0] at hd ⊢
      have e1 : stepOf k = 1 := by rw [k0]; rfl
      rw [e1, if_neg (by decide), if_pos rfl, if_neg (by simp; omega), if_pos hd.2.1]
      exact evG_fE hb e (x :: st) hd.2.2
    rw [if_neg k0] at hd ⊢
    by_cases k1 : k = 1
    · rw [if_pos k1] at hd ⊢
      have e1 : stepOf k = 2 := by rw [k1]; rfl
      rw [e1, if_neg (by decide), if_neg (by decide), if_pos rfl, if_neg (by simp; omega), if_pos hd.2.1, if_pos hd.2.2.1]
      exact evG_fE hb e (s (ztn x) :: st) hd.2.2.2
    rw [if_neg k1] at hd ⊢
    obtain ⟨hk, h2, hd⟩ := hd
    match st, h2, hd with
    | [], h2, _ => exact absurd h2 (by simp)
    | [_], h2, _ => exact absurd h2 (by simp)
    | y :: z :: st, _, hd =>
      have n4 : stepOf k ≠ 4 ∧ stepOf k ≠ 1 ∧ stepOf k ≠ 2 ∧ stepOf k ≠ 3 ∧ (stepOf k = 47 ↔ k = 5) := by
        rcases hk with rfl | rfl | rfl | rfl <;> decide
      rw [if_neg n4.1, if_neg n4.2.1, if_neg n4.2.2.1, if_neg (by simp), if_neg n4.2.2.2.1]
      show (if stepOf k = 47 ∧ y = 0 then (0 : Int32) else evG s (fE e ++ c) (combF (stepOf k) z y :: (st ++ base))) = (if k = 5 ∧ y = 0 then none else evO s e (opF k z y :: st)).elim 0 fun st1 => evG s c (st1 ++ base)
      by_cases k5 : k = 5 ∧ y = 0
      · rw [if_pos ⟨n4.2.2.2.2.2 k5.1, k5.2⟩, if_pos k5]
        rfl
      · rw [if_neg (fun q => k5 ⟨n4.2.2.2.2.1 q.1, q.2⟩), if_neg k5]
        have := evG_fE (s := s) (c := c) hb e (opF k z y :: st) hd
        rw [← this]
        rw [combF_op hk k5]
        rfl
theorem evG_fE1 {s : Nat → Int32} {c : List (Int32 × Int32 × Nat)} {base : List Int32} (hb : base.length ≤ 1) {e : zEx} (hd : dO e 0) : evG s (fE e ++ c) base = (evE s e).elim 0 fun x => evG s c (x :: base) := by
  have := evG_fE (s := s) (c := c) hb e [] hd
  rw [show base = [] ++ base from rfl, this]
  unfold evE
  cases h : evO s e [] with
  | none => rfl
  | some st1 =>
    have hl := evO_len e [] st1 hd h
    match st1, hl with
    | [x], _ => rfl
theorem evG_fP {s : Nat → Int32} : ∀ ps : zPr, dP ps → evG s (fP ps) [] = evP s ps
  | [], _ => rfl
  | (none, e) :: ps, h => by
    have hd : dO e 0 := h (none, e) (by simp)
    rw [show fP ((none, e) :: ps) = fE e ++ ((4, 0, 0) :: fP ps) by simp [fP, fB], evG_fE1 (by simp) hd, evP]
    cases evE s e with
    | none => rfl
    | some x => simp [evG_cons]
  | (some (a, b), e) :: ps, h => by
    obtain ⟨ha, hb, he⟩ : dO a 0 ∧ dO b 0 ∧ dO e 0 := h (some (a, b), e) (by simp)
    have ih := evG_fP (s := s) ps (fun b hb => h b (by simp [hb]))
    rw [show fP ((some (a, b), e) :: ps) = fE a ++ (fE b ++ ((3, 0, e.length + 1) :: (fE e ++ ((4, 0, 0) :: fP ps)))) by simp [fP, fB], evG_fE1 (by simp) ha, evP, evT]
    cases evE s a with
    | none => rfl
    | some x =>
      simp only [Option.elim_some, Option.bind_some]
      rw [evG_fE1 (by simp) hb]
      cases evE s b with
      | none => rfl
      | some y =>
        simp only [Option.elim_some, Option.map_some]
        rw [evG_cons, if_neg (by decide), if_neg (by decide), if_neg (by decide), if_neg (by simp), if_pos rfl]
        have hdr : (fE e ++ ((4, 0, 0) :: fP ps)).drop (e.length + 1) = fP ps := by
          have hl : (fE e).length = e.length := by simp [fE]
          rw [List.drop_append, List.drop_of_length_le (by omega), hl, show e.length + 1 - e.length = 1 by omega]
          rfl
        rw [hdr]
        show (if x < y then evG s (fE e ++ ((4, 0, 0) :: fP ps)) [] else evG s (fP ps) []) = if decide (x < y) = true then (evE s e).getD 0 else evP s ps
        by_cases hxy : x < y
        · rw [if_pos hxy, evG_fE1 (by simp) he, if_pos (by simpa using hxy)]
          cases evE s e with
          | none => rfl
          | some z => simp [evG_cons]
        · rw [if_neg hxy, if_neg (by simpa using hxy)]
          exact ih
/-- only the values that stand in the law count -/
theorem evO_congr {s t : Nat → Int32} : ∀ (e : zEx) (st : List Int32), (∀ i, i ∈ e → i.1 = 1 → s (ztn i.2) = t (ztn i.2)) → evO s e st = evO t e st
  | [], _, _ => rfl
  | (k, x) :: e, st, h => by
    have ih : ∀ st, evO s e st = evO t e st := fun st => evO_congr e st (fun i hi => h i (by simp [hi]))
    rw [evO, evO]
    simp only [ih]
    by_cases k1 : k = 1
    · have hx : s (ztn x) = t (ztn x) := h (k, x) (by simp) k1
      rw [hx]
    · simp only [if_neg k1]
def inB : Option (zEx × zEx) × zEx → zEx
  | (none, e) => e
  | (some (a, b), e) => a ++ (b ++ e)
theorem evE_congr {s t : Nat → Int32} {e : zEx} (h : ∀ i, i ∈ e → i.1 = 1 → s (ztn i.2) = t (ztn i.2)) : evE s e = evE t e := by
  unfold evE
  rw [evO_congr e [] h]
theorem evP_congr {s t : Nat → Int32} : ∀ ps : zPr, (∀ b, b ∈ ps → ∀ i, i ∈ inB b → i.1 = 1 → s (ztn i.2) = t (ztn i.2)) → evP s ps = evP t ps
  | [], _ => rfl
  | (none, e) :: ps, h => by
    rw [evP, evP, evE_congr (t := t) (e := e) (fun i hi => h (none, e) (by simp) i hi)]
  | (some (a, b), e) :: ps, h => by
    have h0 := h (some (a, b), e) (by simp)
    rw [evP, evP, evT, evT, evE_congr (t := t) (e := a) (fun i hi => h0 i (by simp [inB, hi])), evE_congr (t := t) (e := b) (fun i hi => h0 i (by simp [inB, hi])), evE_congr (t := t) (e := e) (fun i hi => h0 i (by simp [inB, hi])), evP_congr ps (fun b hb => h b (by simp [hb]))]
theorem dO_var : ∀ (e : zEx) (d : Nat), dO e d → ∀ i, i ∈ e → i.1 = 1 → 0 ≤ i.2 ∧ i.2 < 7
  | [], _, _, i, hi, _ => absurd hi (by simp)
  | (k, x) :: e, d, h, i, hi, h1 => by
    rw [dO] at h
    rcases List.mem_cons.1 hi with rfl | hi
    · simp only at h1
      subst h1
      rw [if_neg (by decide), if_pos rfl] at h
      exact ⟨h.2.1, h.2.2.1⟩
    · split at h
      · exact dO_var e _ h.2.2 i hi h1
      split at h
      · exact dO_var e _ h.2.2.2 i hi h1
      · exact dO_var e _ h.2.2 i hi h1
theorem dB_var {b : Option (zEx × zEx) × zEx} (h : dB b) : ∀ i, i ∈ inB b → i.1 = 1 → 0 ≤ i.2 ∧ i.2 < 7 := by
  intro i hi h1
  match b, h, hi with
  | (none, e), h, hi => exact dO_var e 0 h i hi h1
  | (some (a, b), e), h, hi =>
    simp only [inB, List.mem_append] at hi
    rcases hi with hi | hi | hi
    · exact dO_var a 0 h.1 i hi h1
    · exact dO_var b 0 h.2.1 i hi h1
    · exact dO_var e 0 h.2.2 i hi h1
/-! WHAT A HOUSE SEES -/
def leftF (n : Nat) (street : Int32) (h : Nat) : Nat := if h = 0 then (if street = 0 then n - 1 else h) else h - 1
def rightF (n : Nat) (street : Int32) (h : Nat) : Nat := if h + 1 = n then (if street = 0 then 0 else h) else h + 1
def absF (x : Int32) : Int32 := if 0 ≤ x then x else -x
def gapF (n : Nat) (street : Int32) (w : Nat → Int32) (h : Nat) : Int32 := absF (shF w (leftF n street h) - shF w (rightF n street h))
def mixF (x0 x1 : Int32) : Int32 := ((((x0 ^^^ x1) * (1103515245 : Int32)) + (12345 : Int32)) ^^^ (((((x0 ^^^ x1) * (1103515245 : Int32)) + (12345 : Int32)).toUInt32 >>> ((15 : Int32).toUInt32 &&& Int32.toUInt32 31)).toInt32))
def lotF (seed z : Int32) : Int32 := (((mixF (mixF seed 25) z).toUInt32 >>> ((1 : Int32).toUInt32 &&& Int32.toUInt32 31)).toInt32) - (((mixF (mixF seed 25) z).toUInt32 >>> ((1 : Int32).toUInt32 &&& Int32.toUInt32 31)).toInt32) / (100 : Int32) * (100 : Int32)
def vF (n : Nat) (street seed : Int32) (w : Nat → Int32) (h : Nat) : Nat → Int32
  | 0 => shF w (leftF n street h)
  | 1 => shF w (rightF n street h)
  | 2 => shF w h
  | 3 => gapF n street w h
  | 4 => w 42
  | 5 => lotF seed (20 * w 42 + nI h)
  | _ => w 41
def clampF (most x : Int32) : Int32 := if 0 < (if most < x then most else x) then (if most < x then most else x) else 0
theorem i_le_of {a b : Int32} (h : ¬ a < b) : b ≤ a := Int32.not_lt.1 h
theorem i_lt_of {a b : Int32} (h : ¬ a ≤ b) : b < a := Int32.not_le.1 h
theorem clampF_m {most x : Int32} (hm : 0 ≤ most) : (if 0 ≤ x then (if x ≤ most then x else most) else 0) = clampF most x := by
  unfold clampF
  by_cases h1 : most < x
  · have h2 : 0 ≤ x := Int32.le_trans hm (Int32.le_of_lt h1)
    rw [if_pos h2, if_neg (by rw [Int32.not_le]; exact h1), if_pos h1]
    by_cases h3 : 0 < most
    · rw [if_pos h3]
    · rw [if_neg h3]
      exact Int32.le_antisymm (i_le_of h3) hm
  · rw [if_neg h1, if_pos (i_le_of h1)]
    by_cases h3 : 0 < x
    · rw [if_pos h3, if_pos (Int32.le_of_lt h3)]
    · rw [if_neg h3]
      by_cases h4 : 0 ≤ x
      · rw [if_pos h4]
        exact Int32.le_antisymm (i_le_of h3) h4
      · rw [if_neg h4]
theorem leftF_lt {n h : Nat} {street : Int32} (hh : h < n) : leftF n street h < n := by
  unfold leftF
  repeat' split
  all_goals omega
theorem rightF_lt {n h : Nat} {street : Int32} (hh : h < n) : rightF n street h < n := by
  unfold rightF
  repeat' split
  all_goals omega
/-! the reference -/
theorem X12_shownOf {R : zR} {M : zM} (hR : zMd R) {h : Nat} (hh : h < 10) : f_X12_shownOf R M 242 (nI h) = some (shF (M 271) h) := by
  apply zT_val
  unfold f_X12_shownOf
  rw [hR.at (k := 46) (b := 271) rfl (by decide), nI_lit 10, nI_add]
  refine zT_ck (zin_nI (by omega) (by omega)) (zT_ck (zin_nI (by omega) (by omega)) (zT_some ?_))
  rw [ztn_nI (by omega), ztn_nI (by omega)]
  rfl
theorem X12_left {R : zR} {M : zM} (hR : zMd R) {n h l : Nat} (hn : n ≤ 10) (hw : M 271 40 = nI n) (hh : h < n) (hl : l < 2) (hv : M 242 18 = nI l) : f_X12_beside R M 242 (nI h) (-1 : Int32) = some (shF (M 271) (leftF n (M 253 l) h)) := by
  apply zT_val
  unfold f_X12_beside
  rw [hR.at (k := 46) (b := 271) rfl (by decide)]
  have e40 : M 271 (ztn (40 : Int32)) = nI n := hw
  rw [e40]
  by_cases h0 : h = 0
  · subst h0
    refine zT_if1 (by decide) ?_
    unfold j_X12_beside_24
    rw [hv, hR.at (k := 24) (b := 253) rfl (by decide), ztn_nI (by omega)]
    refine zT_ck (zin_nI hl (by omega)) ?_
    unfold leftF
    rw [if_pos rfl]
    by_cases hs : M 253 l = 0
    · refine zT_if1 hs (zT_if0 (by decide) ?_)
      unfold j_X12_beside_54 j_X12_beside_56
      rw [if_pos hs, nI_sub1 (by omega)]
      exact zT_bd (zT_eq (X12_shownOf hR (by omega)) (zT_some rfl))
    · refine zT_if0 hs ?_
      rw [if_neg hs]
      exact zT_bd (zT_eq (X12_shownOf (h := 0) hR (by omega)) (zT_some rfl))
  · rw [nI_dec (by omega)]
    refine zT_if0 (nI_pos (by omega)) (zT_if1 (nI_lt (by omega) (by omega)) ?_)
    unfold j_X12_beside_56 leftF
    rw [if_neg h0]
    exact zT_bd (zT_eq (X12_shownOf hR (by omega)) (zT_some rfl))
theorem X12_right {R : zR} {M : zM} (hR : zMd R) {n h l : Nat} (hn : n ≤ 10) (hw : M 271 40 = nI n) (hh : h < n) (hl : l < 2) (hv : M 242 18 = nI l) : f_X12_beside R M 242 (nI h) (1 : Int32) = some (shF (M 271) (rightF n (M 253 l) h)) := by
  apply zT_val
  unfold f_X12_beside
  rw [hR.at (k := 46) (b := 271) rfl (by decide)]
  have e40 : M 271 (ztn (40 : Int32)) = nI n := hw
  rw [e40, nI_1]
  by_cases h0 : h + 1 = n
  · refine zT_if0 (nI_pos (by omega)) (zT_if0 (nI_nlt (by omega) (by omega)) ?_)
    unfold j_X12_beside_24
    rw [hv, hR.at (k := 24) (b := 253) rfl (by decide), ztn_nI (by omega)]
    refine zT_ck (zin_nI hl (by omega)) ?_
    unfold rightF
    rw [if_pos h0]
    by_cases hs : M 253 l = 0
    · refine zT_if1 hs (zT_if1 (nI_pos' (by omega)) ?_)
      unfold j_X12_beside_54 j_X12_beside_56
      rw [if_pos hs]
      exact zT_bd (zT_eq (X12_shownOf (h := 0) hR (by omega)) (zT_some rfl))
    · refine zT_if0 hs ?_
      rw [if_neg hs]
      exact zT_bd (zT_eq (X12_shownOf hR (by omega)) (zT_some rfl))
  · refine zT_if0 (nI_pos (by omega)) (zT_if1 (nI_lt (by omega) (by omega)) ?_)
    unfold j_X12_beside_56 rightF
    rw [if_neg h0]
    exact zT_bd (zT_eq (X12_shownOf hR (by omega)) (zT_some rfl))
theorem X12_gapOf {R : zR} {M : zM} (hR : zMd R) {n h l : Nat} (hn : n ≤ 10) (hw : M 271 40 = nI n) (hh : h < n) (hl : l < 2) (hv : M 242 18 = nI l) : f_X12_gapOf R M 242 (nI h) = some (gapF n (M 253 l) (M 271) h) := by
  apply zT_val
  unfold f_X12_gapOf
  refine zT_bd (zT_eq (X12_left hR hn hw hh hl hv) (zT_bd (zT_eq (X12_right hR hn hw hh hl hv) ?_)))
  unfold gapF absF
  refine zT_if (fun q => ?_) (fun q => ?_)
  · rw [if_pos q]
    exact zT_some rfl
  · rw [if_neg q]
    exact zT_some rfl
theorem X12_lot (s z : Int32) : f_X12_lot s z 100 = some (lotF s z) := rfl
def zBr (M : zM) (b : Nat) : Option (zEx × zEx) × zEx → Prop
  | (none, e) => M 260 b = 0 ∧ ∃ p, M 263 b = nI p ∧ M 264 b = nI (p + e.length) ∧ zCd M p e ∧ p + e.length ≤ 840
  | (some (u, v), e) => M 260 b = 1 ∧ ∃ p, M 261 b = nI p ∧ M 262 b = nI (p + u.length) ∧ M 263 b = nI (p + u.length + v.length) ∧ M 264 b = nI (p + u.length + v.length + e.length) ∧ zCd M p u ∧ zCd M (p + u.length) v ∧ zCd M (p + u.length + v.length) e ∧ p + u.length + v.length + e.length ≤ 840
def zBs (M : zM) : Nat → zPr → Prop
  | _, [] => True
  | b, g :: ps => zBr M b g ∧ zBs M (b + 1) ps
def dflt (k : Nat) : zPr := if k = 0 then [(none, [(1, 3)])] else [(none, [(0, 0)])]
def zMp (M : zM) (i k : Nat) (P : zPr) : Prop := dP P ∧ ((M 258 i = M 259 i ∧ P = dflt k) ∨ (P ≠ [] ∧ ∃ f, M 258 i = nI f ∧ M 259 i = nI (f + P.length) ∧ f + P.length ≤ 260 ∧ zBs M f P))
theorem zBr.eq {M M1 : zM} {b : Nat} {g : Option (zEx × zEx) × zEx} (he : ∀ a k, 260 ≤ a → a ≤ 266 → M1 a k = M a k) (h : zBr M b g) : zBr M1 b g := by
  match g, h with
  | (none, e), ⟨h0, p, h1, h2, h3, h4⟩ =>
    exact ⟨by rw [he 260 b (by omega) (by omega)]; exact h0, p, by rw [he 263 b (by omega) (by omega)]; exact h1, by rw [he 264 b (by omega) (by omega)]; exact h2, zCd.eq (fun k => he _ k (by omega) (by omega)) (fun k => he _ k (by omega) (by omega)) _ _ h3, h4⟩
  | (some (u, v), e), ⟨h0, p, h1, h2, h3, h4, h5, h6, h7, h8⟩ =>
    exact ⟨by rw [he 260 b (by omega) (by omega)]; exact h0, p, by rw [he 261 b (by omega) (by omega)]; exact h1, by rw [he 262 b (by omega) (by omega)]; exact h2, by rw [he 263 b (by omega) (by omega)]; exact h3, by rw [he 264 b (by omega) (by omega)]; exact h4, zCd.eq (fun k => he _ k (by omega) (by omega)) (fun k => he _ k (by omega) (by omega)) _ _ h5, zCd.eq (fun k => he _ k (by omega) (by omega)) (fun k => he _ k (by omega) (by omega)) _ _ h6, zCd.eq (fun k => he _ k (by omega) (by omega)) (fun k => he _ k (by omega) (by omega)) _ _ h7, h8⟩
theorem zBs.eq {M M1 : zM} (he : ∀ a k, 260 ≤ a → a ≤ 266 → M1 a k = M a k) : ∀ (ps : zPr) (b : Nat), zBs M b ps → zBs M1 b ps
  | [], _, _ => trivial
  | _ :: ps, b, h => ⟨h.1.eq he, zBs.eq he ps (b + 1) h.2⟩
theorem zMp.eq {M M1 : zM} {i k : Nat} {P : zPr} (he : ∀ a k, 258 ≤ a → a ≤ 266 → M1 a k = M a k) (h : zMp M i k P) : zMp M1 i k P := by
  refine ⟨h.1, ?_⟩
  rw [he 258 i (by omega) (by omega), he 259 i (by omega) (by omega)]
  rcases h.2 with h | ⟨h0, f, h1, h2, h3, h4⟩
  · exact Or.inl h
  · exact Or.inr ⟨h0, f, h1, h2, h3, zBs.eq (fun a k q1 q2 => he a k (by omega) q2) _ _ h4⟩
/-- the cells in which the reference reckons a law -/
def tlA : Nat → Nat → Prop := fun b k => b = 268 ∨ b = 269 ∨ (b = 242 ∧ k = 44)

/-! RESTS -/
theorem nI_xor (a b : Nat) : nI a ^^^ nI b = nI (a ^^^ b) := by
  apply Int32.toBitVec_inj.1
  show BitVec.ofNat 32 a ^^^ BitVec.ofNat 32 b = BitVec.ofNat 32 (a ^^^ b)
  apply BitVec.eq_of_getLsbD_eq
  intro i hi
  simp [hi]
theorem bit_at {s i : Nat} (hs : s < 256) (hi : i < 8) : (nI s >>> (nI i &&& 31)) &&& (1 : Int32) = nI (s / 2 ^ i % 2) := by
  have d : ∀ k, s / 2 ^ k < 4294967296 := fun k => Nat.lt_of_le_of_lt (Nat.div_le_self _ _) (by omega)
  rcases (show i = 0 ∨ i = 1 ∨ i = 2 ∨ i = 3 ∨ i = 4 ∨ i = 5 ∨ i = 6 ∨ i = 7 by omega) with rfl | rfl | rfl | rfl | rfl | rfl | rfl | rfl
  · rw [pk_shrN (by omega) _ 0 (by decide), pk_andN (d 0) 1 (by decide)]
  · rw [pk_shrN (by omega) _ 1 (by decide), pk_andN (d 1) 1 (by decide)]
  · rw [pk_shrN (by omega) _ 2 (by decide), pk_andN (d 2) 1 (by decide)]
  · rw [pk_shrN (by omega) _ 3 (by decide), pk_andN (d 3) 1 (by decide)]
  · rw [pk_shrN (by omega) _ 4 (by decide), pk_andN (d 4) 1 (by decide)]
  · rw [pk_shrN (by omega) _ 5 (by decide), pk_andN (d 5) 1 (by decide)]
  · rw [pk_shrN (by omega) _ 6 (by decide), pk_andN (d 6) 1 (by decide)]
  · rw [pk_shrN (by omega) _ 7 (by decide), pk_andN (d 7) 1 (by decide)]
theorem one_shl {i : Nat} (hi : i ≤ 8) : (1 : Int32) <<< (nI i &&& 31) = nI (2 ^ i) := by
  rcases (show i = 0 ∨ i = 1 ∨ i = 2 ∨ i = 3 ∨ i = 4 ∨ i = 5 ∨ i = 6 ∨ i = 7 ∨ i = 8 by omega) with rfl | rfl | rfl | rfl | rfl | rfl | rfl | rfl | rfl
  all_goals decide
theorem two_le {i n : Nat} (h : i ≤ n) : 2 ^ i ≤ 2 ^ n := Nat.pow_le_pow_right (by omega) h
theorem xor_lt {s i n : Nat} (hs : s < 2 ^ n) (hi : i < n) : s ^^^ 2 ^ i < 2 ^ n := Nat.xor_lt_two_pow hs (Nat.pow_lt_pow_right (by omega) hi)
/-- each of the first c houses hides nothing, or so many -/
def hideS (c unit s : Nat) (w : Nat → Int32) : Nat → Int32 := fun j => if 10 ≤ j ∧ j < 10 + c then (if s / 2 ^ (j - 10) % 2 = 1 then (if w (j - 10) < nI unit then w (j - 10) else nI unit) else 0) else w j
theorem hideS_up {c unit s : Nat} {w : Nat → Int32} {v : Int32} (hv : v = if s / 2 ^ c % 2 = 1 then (if w c < nI unit then w c else nI unit) else 0) : upd (hideS c unit s w) (10 + c) v = hideS (c + 1) unit s w := by
  funext j
  by_cases e : j = 10 + c
  · subst e
    rw [upd_s]
    unfold hideS
    rw [if_pos (by omega), show 10 + c - 10 = c by omega]
    exact hv
  · rw [upd_n e]
    unfold hideS
    by_cases c1 : 10 ≤ j ∧ j < 10 + c
    · rw [if_pos c1, if_pos (show 10 ≤ j ∧ j < 10 + (c + 1) by omega)]
    · rw [if_neg c1, if_neg (show ¬ (10 ≤ j ∧ j < 10 + (c + 1)) by omega)]
theorem hideS_lo {c unit s j : Nat} {w : Nat → Int32} (hj : j < 10) : hideS c unit s w j = w j := by
  unfold hideS
  rw [if_neg (by omega)]
theorem zGd.hides {n T S unit s : Nat} {w : Nat → Int32} (h : zGd n T S w) (hu : unit ≤ 999) (hT : T < 2147483648) : zGd n T S (hideS n unit s w) := by
  obtain ⟨h0, h1, ⟨t, ht, et⟩, p, q, pot, hp, h4, h5⟩ := h
  have hi : ∀ j, 20 ≤ j → hideS n unit s w j = w j := fun j hj => by unfold hideS; rw [if_neg (by omega)]
  refine ⟨h0, by rw [hi 40 (by omega)]; exact h1, ⟨t, ht, by rw [hi 43 (by omega)]; exact et⟩, p, fun i => if s / 2 ^ i % 2 = 1 then (if p i < unit then p i else unit) else 0, pot, fun i hin => ?_, by rw [hi 41 (by omega)]; exact h4, h5⟩
  obtain ⟨a, b, c⟩ := hp i hin
  have hl := sumN_le (p := p) n i hin
  refine ⟨by rw [hideS_lo (by omega)]; exact a, ?_, ?_⟩
  · unfold hideS
    rw [if_pos (by omega), show 10 + i - 10 = i by omega, a]
    dsimp only
    by_cases c1 : s / 2 ^ i % 2 = 1
    · rw [if_pos c1, if_pos c1]
      by_cases c2 : p i < unit
      · rw [if_pos (nI_lt c2 (by omega)), if_pos c2]
      · rw [if_neg (nI_nlt (by omega) (by omega)), if_neg c2]
    · rw [if_neg c1, if_neg c1]
      rfl
  · dsimp only
    split
    · split <;> omega
    · omega
theorem RW.hid {M : zM} {r n j : Nat} {w : Nat → Int32} (h : RW M r n w) (hj : j < n) (v : Int32) : RW (zup M (r + 2) j v) r n (upd w (10 + j) v) := by
  obtain ⟨q1, q2, q3, q4, q5, q6, q7⟩ := h
  refine ⟨q1, ?_, ?_, ?_, ?_, ?_, fun i hi => ?_⟩
  · rw [zup_a (by omega)]; exact q2
  · rw [upd_n (by omega)]; exact q3
  · rw [zup_a (by omega), upd_n (by omega)]; exact q4
  · rw [zup_a (by omega), upd_n (by omega)]; exact q5
  · rw [zup_a (by omega), upd_n (by omega)]; exact q6
  · obtain ⟨f1, f2, f3, f4⟩ := q7 i hi
    rw [zup_a (b := r + 1) (by omega), zup_a (b := r + 3) (by omega), zup_a (b := r + 4) (by omega), upd_n (j := i) (by omega), upd_n (j := 20 + i) (by omega), upd_n (j := 30 + i) (by omega)]
    refine ⟨f1, ?_, f3, f4⟩
    by_cases e : i = j
    · subst e
      rw [upd_s]
      exact zup_same
    · rw [upd_n (by omega)]
      exact (zup_k e).trans f2
def restB (n : Nat) (G : Nat → Nat → Int32) (s : Nat) : Bool := (seekF (fun i => !(decide (G (s ^^^ 2 ^ i) i ≤ G s i))) n 0).isNone
/-- the y-th that is so, or how many -/
def nthF (B : Nat → Bool) (y : Int32) : Nat → Nat → Nat → Nat ⊕ Nat
  | 0, _, c => .inr c
  | m + 1, k, c => if B k = true then (if nI c = y then .inl k else nthF B y m (k + 1) (c + 1)) else nthF B y m (k + 1) c
theorem zT_nth {b : Int32 × Int32 → Option ((Int32 × Int32) ⊕ (Int32 ⊕ Int32))} {N : Nat} (B : Nat → Bool) (y : Int32) (hN : N < 999999) (h1 : ∀ c k, k < N → c ≤ k → zT (b (nI c, nI k)) (fun r => r = if B k = true then (if nI c = y then .inr (.inl (nI k)) else .inl (nI (c + 1), nI (k + 1))) else .inl (nI c, nI (k + 1)))) (h2 : ∀ c, zT (b (nI c, nI N)) (fun r => r = .inr (.inr (nI c)))) : zT (zloop zN b ((0 : Int32), (0 : Int32))) (fun r => r = (nthF B y N 0 0).elim (fun k => .inl (nI k)) (fun c => .inr (nI c))) := by
  obtain ⟨ans, hA⟩ : ∃ ans, nthF B y N 0 0 = ans := ⟨_, rfl⟩
  rw [hA]
  refine zT_loop (fun m v => ∃ c k, m + k = N ∧ c ≤ k ∧ v = (nI c, nI k) ∧ nthF B y m k c = ans) N ⟨0, 0, by omega, by omega, rfl, hA⟩ (by omega) ?_
  rintro m v ⟨c, k, hm, hc, rfl, ha⟩
  cases m with
  | zero =>
    have : k = N := by omega
    subst this
    refine zT_w (h2 c) ?_
    rintro r rfl
    rw [← ha]
    rfl
  | succ m =>
    refine zT_w (h1 c k (by omega) hc) ?_
    rintro r rfl
    unfold nthF at ha
    by_cases hb : B k = true
    · rw [if_pos hb] at ha ⊢
      by_cases hy : nI c = y
      · rw [if_pos hy] at ha ⊢
        rw [← ha]
        rfl
      · rw [if_neg hy] at ha ⊢
        exact ⟨m, by omega, c + 1, k + 1, by omega, by omega, rfl, ha⟩
    · rw [if_neg hb] at ha ⊢
      exact ⟨m, by omega, c, k + 1, by omega, by omega, rfl, ha⟩
section TRY
variable {R : zR} {M : zM} {ru : zRu} {q l n T S u x : Nat}
theorem X4_follow (h : zSt R M ru q l n T S u x) (hT : T + 3100000 < 2147483648) (hS : S + 400 < 2147483648) {unit s : Nat} (hn8 : n ≤ 8) (hu : unit ≤ 999) (hs : s < 2 ^ n) : zT (f_X4_follow R M 200 q 13 (nI unit) (nI s)) (fun M1 => (∀ j, M1 206 j = if 8 * s ≤ j ∧ j < 8 * s + n then eveF n (ruH ru) ru (hideS n unit s (rowF M)) (j - 8 * s) else M 206 j) ∧ zag zsk M M1) := by
  have hs256 : s < 256 := Nat.lt_of_lt_of_le hs (two_le hn8)
  obtain ⟨t0, t1, t2, t3, t4, t5, t6, t7, -⟩ := h.rt
  have ht : zTr 201 := by unfold zTr; omega
  unfold f_X4_follow
  rw [t5]
  refine zT_bd (zT_w (h.copyC t7 ht) ?_)
  rintro M1 ⟨w1, g1, f1⟩
  refine zT_bd ?_
  refine zT_w (Q := fun M2 : zM => RW M2 201 n (hideS n unit s (rowF M)) ∧ zag zst M M2) (zT_for n (fun i v => v.1 = nI i ∧ RW v.2 201 n (hideS i unit s (rowF M)) ∧ zag zst M v.2) ⟨rfl, ?_, g1⟩ (by omega) ?_ ?_) ?_
  · have : hideS 0 unit s (rowF M) = rowF M := by
      funext j
      unfold hideS
      rw [if_neg (by omega)]
    show RW M1 201 n (hideS 0 unit s (rowF M))
    rw [this]
    exact w1
  · rintro i ⟨y, M2⟩ hi ⟨rfl, w2, g2⟩
    simp only at w2 g2 ⊢
    unfold b_X4_follow_11 j_X4_follow_68
    rw [t5, t7.1, t7.2.1, bit_at hs256 (by omega), ztn_nI (by omega), (w2.2.2.2.2.2.2 i hi).1, hideS_lo (by omega)]
    have hz := zin_nI (k := i) (n := 10) (by omega) (by omega)
    have fin : ∀ v : Int32, (v = if s / 2 ^ i % 2 = 1 then (if rowF M i < nI unit then rowF M i else nI unit) else 0) → RW (zup M2 (201 + 2) i v) 201 n (hideS (i + 1) unit s (rowF M)) ∧ zag zst M (zup M2 (201 + 2) i v) := fun v hv => by
      have := w2.hid hi v
      rw [hideS_up hv] at this
      exact ⟨this, g2.up (by unfold zst; omega)⟩
    refine zT_if0 (by rw [nI_lit 10]; exact nI_ge (by omega) (by omega)) (zT_bd (zT_eq (hz_yes w2 hi) (zT_if0 (by decide) ?_)))
    refine zT_if (fun c => zT_ck hz (zT_ck hz (zT_lt (zT_some ⟨nI_1 _, ?_⟩)))) (fun c => zT_ck hz (zT_lt (zT_some ⟨nI_1 _, ?_⟩)))
    · have c' : s / 2 ^ i % 2 = 1 := nI_inj (by omega) (by omega) c
      exact fin _ (by rw [if_pos c'])
    · have c' : ¬ s / 2 ^ i % 2 = 1 := fun q => c (by rw [q]; rfl)
      exact fin _ (by rw [if_neg c'])
  · rintro ⟨y, M2⟩ ⟨rfl, w2, g2⟩
    simp only at w2 g2 ⊢
    unfold b_X4_follow_11
    rw [t5]
    exact zT_if0 (by rw [nI_lit 10]; exact nI_ge (by omega) (by omega)) (zT_bd (zT_eq (hz_end w2) (zT_if1 rfl (zT_some ⟨w2, g2⟩))))
  rintro M2 ⟨w2, g2⟩
  have h2 := h.sc (zst.sc g2)
  rw [h2.how]
  refine zT_bd (zT_w (h2.eveC t7 ht w2 (h.gd.hides hu (by omega)) (by omega) h.ok.1) ?_)
  rintro M3 ⟨w3, g3, f3⟩
  have g03 := g2.tr g3
  have c3 : ∀ j, M3 206 j = M 206 j := fun j => g03 206 j (by unfold zst; omega)
  refine zT_bd ?_
  refine zT_w (Q := fun M4 : zM => (∀ j, M4 206 j = if 8 * s ≤ j ∧ j < 8 * s + n then eveF n (ruH ru) ru (hideS n unit s (rowF M)) (j - 8 * s) else M 206 j) ∧ zag (fun b _ => b = 206) M3 M4) (zT_for n (fun i v => v.1 = nI i ∧ (∀ j, v.2 206 j = if 8 * s ≤ j ∧ j < 8 * s + i then eveF n (ruH ru) ru (hideS n unit s (rowF M)) (j - 8 * s) else M 206 j) ∧ zag (fun b _ => b = 206) M3 v.2) ⟨rfl, fun j => by rw [if_neg (by omega)]; exact c3 j, zag.rf⟩ (by omega) ?_ ?_) ?_
  · rintro i ⟨y, M4⟩ hi ⟨rfl, e4, g4⟩
    simp only at e4 g4 ⊢
    unfold b_X4_follow_90
    have w4 : RW M4 201 n _ := w3.cells (fun a k q1 q2 => g4 a k (by omega))
    have ix : nI s * (8 : Int32) + nI i = nI (8 * s + i) := by rw [nI_lit 8, pk_mul, nI_add, Nat.mul_comm]
    rw [t5, t6, t7.1, ix]
    refine zT_if0 (by rw [nI_lit 8]; exact nI_ge (by omega) (by omega)) (zT_bd (zT_eq (hz_yes w4 hi) (zT_if0 (by decide) (zT_ck (zin_nI (by omega) (by omega)) (zT_ck (zin_nI (by omega) (by omega)) (zT_lt (zT_some ⟨nI_1 _, fun j => ?_, g4.up rfl⟩)))))))
    rw [ztn_nI (by omega), ztn_nI (by omega), (w4.2.2.2.2.2.2 i hi).1]
    show zup M4 206 (8 * s + i) _ 206 j = _
    by_cases c : j = 8 * s + i
    · subst c
      rw [zup_same, if_pos (by omega), show 8 * s + i - 8 * s = i by omega]
    · rw [zup_k c, e4]
      by_cases c2 : 8 * s ≤ j ∧ j < 8 * s + i
      · rw [if_pos c2, if_pos (by omega)]
      · rw [if_neg c2, if_neg (by omega)]
  · rintro ⟨y, M4⟩ ⟨rfl, e4, g4⟩
    simp only at e4 g4 ⊢
    unfold b_X4_follow_90
    have w4 : RW M4 201 n _ := w3.cells (fun a k q1 q2 => g4 a k (by omega))
    rw [t5]
    exact zT_if (fun _ => zT_some ⟨e4, g4⟩) (fun _ => zT_bd (zT_eq (hz_end w4) (zT_if1 rfl (zT_some ⟨e4, g4⟩))))
  · rintro M4 ⟨e4, g4⟩
    exact zT_some ⟨e4, (zst.sk g03).tr (g4.mo (fun b k e => by unfold zsk; omega))⟩
theorem zRests (h : zSt R M ru q l n T S u x) (hT : T + 3100000 < 2147483648) (hS : S + 400 < 2147483648) (x1 x2 : Int32) : zAns R M ru q l n T S u x (f_X11_rests R M 2 x1 x2) (fun M1 => f_X12_rests R M1 242 x1 x2) := by
  have hn := h.n10
  have m4 : M 13 4 = nI n := h.rw0.2.1
  obtain ⟨t0, t1, t2, t3, t4, t5, t6, t7, -⟩ := h.rt
  have r52 : R 242 52 = 275 := h.md.at rfl (by decide)
  unfold zAns f_X11_rests f_X11_isUnit f_X12_rests
  rw [h.x2, h.q8, h.xr.2.2.2.2.2.2.1, h.r45, m4]
  refine zT_bd ?_
  have no0 : ∀ K : zM → Option (Int32 × zM), x1 < 1 ∨ 999 < x1 → zT (zbd (f_X12_in x1 (1 : Int32) (999 : Int32)) fun r1 => if r1 = 0 then some ((-1 : Int32), M) else K M) (fun p1 => p1.1 = -1 ∧ zag zsr M p1.2) := fun K hy => zT_bd (zT_eq (in_n hy) (zT_if1 rfl (zT_some ⟨rfl, zag.rf⟩)))
  by_cases c1 : x1 < 1
  · rw [if_pos c1]
    exact zT_some (zT_if1 rfl (zT_some ⟨zag.rf, zT_bd (zT_eq (in_n (Or.inl c1)) (zT_if1 rfl (zT_some ⟨rfl, zag.rf⟩)))⟩))
  rw [if_neg c1]
  by_cases c1' : 999 < x1
  · rw [if_pos c1']
    exact zT_some (zT_if1 rfl (zT_some ⟨zag.rf, zT_bd (zT_eq (in_n (Or.inr c1')) (zT_if1 rfl (zT_some ⟨rfl, zag.rf⟩)))⟩))
  rw [if_neg c1']
  have iny : f_X12_in x1 (1 : Int32) (999 : Int32) = some 1 := in_y c1 c1'
  refine zT_some (zT_if0 (by decide) ?_)
  by_cases c2 : (-1 : Int32) ≤ x2
  rotate_left
  · exact zT_if0 c2 (zT_some ⟨zag.rf, zT_bd (zT_eq iny (zT_if0 (by decide) (zT_if0 c2 (zT_some ⟨rfl, zag.rf⟩))))⟩)
  refine zT_if1 c2 ?_
  obtain ⟨unit, hu, rfl⟩ := nI_upto (e := 999) (fun q => c1 (Int32.lt_trans q (by decide))) (i_le_of c1') (by omega)
  by_cases n8 : n ≤ 8
  rotate_left
  · refine zT_if0 (by rw [nI_lit 8]; exact nI_ge (by omega) (by omega)) (zT_some ⟨zag.rf, zT_bd (zT_eq iny (zT_if0 (by decide) (zT_if1 c2 (zT_if0 ?_ (zT_some ⟨rfl, zag.rf⟩)))))⟩)
    show ¬ M 270 40 ≤ 8
    rw [h.n40, nI_lit 8]
    exact nI_ge (by omega) (by omega)
  have p256 : 2 ^ n ≤ 256 := two_le n8
  have p0 : 0 < 2 ^ n := Nat.two_pow_pos n
  obtain ⟨G, hG⟩ : ∃ G : Nat → Nat → Int32, G = fun s i => eveF n (ruH ru) ru (hideS n unit s (rowF M)) i := ⟨_, rfl⟩
  obtain ⟨ans, hA⟩ : ∃ ans : Int32, ans = (nthF (restB n G) x2 (2 ^ n) 0 0).elim (fun k => nI k) (fun c => if x2 = -1 then nI c else -1) := ⟨_, rfl⟩
  refine zT_if1 (by rw [nI_lit 8]; exact nI_le n8 (by omega)) (zT_bd2 ?_)
  have cls : zT (f_X4_restAt R M 200 q 13 (nI unit) x2) (fun p => p.1 = ans ∧ zag zsk M p.2) := by
    unfold f_X4_restAt
    rw [m4, one_shl n8]
    refine zT_if1 (by rw [nI_lit 8]; exact nI_le n8 (by omega)) (zT_bd ?_)
    refine zT_w (Q := fun M1 : zM => (∀ s, s < 2 ^ n → ∀ i, i < n → M1 206 (8 * s + i) = G s i) ∧ zag zsk M M1) (zT_for (2 ^ n) (fun k v => v.1 = nI k ∧ zag zsk M v.2 ∧ ∀ s, s < k → ∀ i, i < n → v.2 206 (8 * s + i) = G s i) ⟨rfl, zag.rf, fun s hs => absurd hs (by omega)⟩ (by omega) ?_ ?_) ?_
    · rintro k ⟨y, M1⟩ hk ⟨rfl, g1, d1⟩
      simp only at g1 d1 ⊢
      unfold b_X4_restAt_23
      refine zT_if0 (nI_ge hk (by omega)) (zT_bd (zT_w (X4_follow (h.sc (zsk.sc g1)) hT hS n8 hu hk) ?_))
      rintro M2 ⟨e2, g2⟩
      rw [zsk.rws g1] at e2
      refine zT_some ⟨nI_1 _, g1.tr g2, fun s hs i hi => ?_⟩
      show M2 206 (8 * s + i) = _
      rw [e2]
      by_cases c : s = k
      · subst c
        rw [if_pos (by omega), show 8 * s + i - 8 * s = i by omega, hG]
      · rw [if_neg (by omega)]
        exact d1 s (by omega) i hi
    · rintro ⟨y, M1⟩ ⟨rfl, g1, d1⟩
      simp only at g1 d1 ⊢
      unfold b_X4_restAt_23
      exact zT_if1 (nI_le (Nat.le_refl _) (by omega)) (zT_some ⟨d1, g1⟩)
    · rintro M1 ⟨d1, g1⟩
      have h1 := h.sc (zsk.sc g1)
      refine zT_bd ?_
      refine zT_w (zT_nth (N := 2 ^ n) (restB n G) x2 (by omega) ?_ ?_) ?_
      · intro c k hk hc
        unfold b_X4_restAt_51
        have rest : f_X4_isRest R M1 200 (nI k) (nI n) = some (if restB n G k = true then 1 else 0) := by
          apply zT_val
          unfold f_X4_isRest
          refine zT_bd ?_
          have cell : ∀ i, i < n → M1 206 (8 * (k ^^^ 2 ^ i) + i) = G (k ^^^ 2 ^ i) i ∧ M1 206 (8 * k + i) = G k i := fun i hi => ⟨d1 _ (xor_lt hk hi) i hi, d1 _ hk i hi⟩
          have step : ∀ i, i < n → ∀ Q : (Int32 ⊕ (Unit ⊕ Unit)) → Prop, (G (k ^^^ 2 ^ i) i ≤ G k i → Q (.inl (nI (i + 1)))) → (¬ G (k ^^^ 2 ^ i) i ≤ G k i → Q (.inr (.inl ()))) → zT (b_X4_isRest_2 R M1 200 (nI k) (nI n) (nI i)) Q := fun i hi Q q1 q2 => by
            unfold b_X4_isRest_2
            have ix : (nI k ^^^ ((1 : Int32) <<< (nI i &&& 31))) * (8 : Int32) + nI i = nI (8 * (k ^^^ 2 ^ i) + i) := by rw [one_shl (by omega), nI_xor, nI_lit 8, pk_mul, nI_add, Nat.mul_comm]
            have ix2 : nI k * (8 : Int32) + nI i = nI (8 * k + i) := by rw [nI_lit 8, pk_mul, nI_add, Nat.mul_comm]
            have xl := xor_lt hk hi
            rw [ix, ix2, t6]
            refine zT_if0 (nI_ge hi (by omega)) (zT_if0 (by rw [nI_lit 8]; exact nI_ge (by omega) (by omega)) (zT_ck (zin_nI (by omega) (by omega)) (zT_ck (zin_nI (by omega) (by omega)) ?_)))
            rw [ztn_nI (by omega), ztn_nI (by omega), (cell i hi).1, (cell i hi).2]
            refine zT_if (fun c => zT_some ?_) (fun c => zT_some (q2 c))
            rw [nI_1]
            exact q1 c
          refine zT_seek n (fun i => !(decide (G (k ^^^ 2 ^ i) i ≤ G k i))) (fun i v => v = nI i) rfl (by omega) ?_ ?_ ?_
          · rintro i v hi rfl hp
            exact step i hi _ (fun _ => rfl) (fun c => absurd (by simpa using hp) c)
          · rintro i v hi rfl hp hseek
            refine step i hi _ (fun c => absurd c (by simpa using hp)) (fun _ => zT_some ?_)
            unfold restB
            rw [hseek]
            rfl
          · rintro v rfl hseek
            unfold b_X4_isRest_2
            refine zT_if1 (nI_le (Nat.le_refl _) (by omega)) (zT_some (zT_some ?_))
            unfold restB
            rw [hseek]
            rfl
        rw [show M1 13 4 = nI n from h1.rw0.2.1]
        refine zT_if0 (nI_ge hk (by omega)) (zT_bd (zT_eq rest ?_))
        by_cases hb : restB n G k = true
        · rw [if_pos hb, if_pos hb]
          refine zT_if0 (by decide) (zT_if (fun e => zT_some ?_) (fun e => zT_some ?_))
          · rw [if_pos e]
          · rw [if_neg e, nI_1, nI_1]
        · rw [if_neg hb, if_neg hb]
          refine zT_if1 rfl (zT_some ?_)
          rw [nI_1]
      · intro c
        unfold b_X4_restAt_51
        exact zT_if1 (nI_le (Nat.le_refl _) (by omega)) (zT_some rfl)
      · rintro r rfl
        rw [hA]
        cases nthF (restB n G) x2 (2 ^ n) 0 0 with
        | inl k => exact zT_some ⟨rfl, g1⟩
        | inr c =>
          refine zT_if (fun e => zT_some ⟨?_, g1⟩) (fun e => zT_some ⟨?_, g1⟩)
          · show nI c = if x2 = -1 then nI c else -1
            rw [if_pos e]
          · show -1 = if x2 = -1 then nI c else -1
            rw [if_neg e]
  refine zT_w cls ?_
  rintro ⟨y, M1⟩ ⟨ey, g1⟩
  refine zT_some ⟨g1, zT_bd (zT_eq iny (zT_if0 (by decide) (zT_if1 c2 (zT_if1 ?_ (zT_bd ?_)))))⟩
  · show M1 270 40 ≤ 8
    rw [show M1 270 40 = nI n from (h.sc (zsk.sc g1)).n40, nI_lit 8]
    exact nI_le n8 (by omega)
  have h1 := h.sc (zsk.sc g1)
  have f1 := zsk.rws g1
  refine zT_w (Q := fun M2 : zM => (∀ s, s < 2 ^ n → ∀ i, i < n → M2 275 (10 * s + i) = G s i) ∧ zag zsr M1 M2) (zT_for (2 ^ n) (fun k v => v.1 = nI k ∧ zag zsr M1 v.2 ∧ rowF v.2 = rowF M ∧ ∀ s, s < k → ∀ i, i < n → v.2 275 (10 * s + i) = G s i) ⟨rfl, zag.rf, f1, fun s hs => absurd hs (by omega)⟩ (by omega) ?_ ?_) ?_
  · rintro k ⟨y, M2⟩ hk ⟨rfl, g2, f2, d2⟩
    simp only at g2 f2 d2 ⊢
    have h2 := h1.sc (zsr.sc g2)
    unfold b_X12_rests_35
    rw [h.r45, show M2 270 (ztn (40 : Int32)) = nI n from h2.n40, one_shl n8]
    refine zT_if0 (nI_ge hk (by omega)) (zT_bd ?_)
    -- hides
    unfold f_X12_hides
    refine zT_bd (zT_w (X12_copies h.md) ?_)
    rintro M3 ⟨e3, g3⟩
    rw [f2] at e3
    have f3 : rowF M3 = rowF M := rowF_of f2 (g3.row (fun k => by omega)) (fun j _ => by rw [e3])
    refine zT_bd ?_
    refine zT_w (Q := fun M4 : zM => M4 271 = hideS n unit k (rowF M) ∧ zag (fun b _ => b = 271) M3 M4) (zT_for n (fun i v => v.1 = nI i ∧ v.2 271 = hideS i unit k (rowF M) ∧ zag (fun b _ => b = 271) M3 v.2) ⟨rfl, ?_, zag.rf⟩ (by omega) ?_ ?_) ?_
    · show M3 271 = hideS 0 unit k (rowF M)
      rw [e3]
      funext j
      unfold hideS
      rw [if_neg (by omega)]
    · rintro i ⟨y, M4⟩ hi ⟨rfl, e4, g4⟩
      simp only at e4 g4 ⊢
      unfold b_X12_hides_6 j_X12_hides_57
      rw [h.r46, bit_at (by omega) (by omega), ztn_nI (by omega), nI_lit 10, nI_add, show M4 271 (ztn (40 : Int32)) = nI n by rw [e4]; exact (show hideS i unit k (rowF M) 40 = nI n by unfold hideS; rw [if_neg (by omega)]; exact h.gd.2.1), e4, hideS_lo (by omega)]
      have hz := zin_nI (k := i) (n := 60) (by omega) (by omega)
      have hz2 := zin_nI (k := 10 + i) (n := 60) (by omega) (by omega)
      have fin : ∀ v : Int32, (v = if k / 2 ^ i % 2 = 1 then (if rowF M i < nI unit then rowF M i else nI unit) else 0) → zup M4 271 (10 + i) v 271 = hideS (i + 1) unit k (rowF M) := fun v hv => by
        rw [zup_upd, e4, hideS_up hv]
      refine zT_if0 (nI_ge hi (by omega)) (zT_if (fun c => zT_ck hz2 (zT_lt (zT_some ⟨nI_1 _, ?_, z271.up g4⟩))) (fun c => zT_ck hz (zT_if (fun c3 => zT_ck hz (zT_ck hz2 (zT_lt (zT_some ⟨nI_1 _, ?_, z271.up g4⟩)))) (fun c3 => zT_ck hz2 (zT_lt (zT_some ⟨nI_1 _, ?_, z271.up g4⟩))))))
      · have c' := nI_0of (by omega) c
        rw [ztn_nI (by omega)]
        exact fin _ (by rw [if_neg (by omega)])
      · have c' : k / 2 ^ i % 2 = 1 := by
          have : k / 2 ^ i % 2 ≠ 0 := fun q => c (by rw [q]; rfl)
          omega
        rw [ztn_nI (by omega)]
        refine fin _ ?_
        rw [if_pos c']
        by_cases c4 : rowF M i < nI unit
        · rw [if_pos c4]
        · rw [if_neg c4]
          exact Int32.le_antisymm c3 (i_le_of c4)
      · have c' : k / 2 ^ i % 2 = 1 := by
          have : k / 2 ^ i % 2 ≠ 0 := fun q => c (by rw [q]; rfl)
          omega
        rw [ztn_nI (by omega)]
        refine fin _ ?_
        rw [if_pos c', if_neg (fun q => c3 (Int32.le_of_lt q))]
    · rintro ⟨y, M4⟩ ⟨rfl, e4, g4⟩
      simp only at e4 g4 ⊢
      unfold b_X12_hides_6
      rw [h.r46, show M4 271 (ztn (40 : Int32)) = nI n by rw [e4]; exact (show hideS n unit k (rowF M) 40 = nI n by unfold hideS; rw [if_neg (by omega)]; exact h.gd.2.1)]
      exact zT_if1 (nI_le (Nat.le_refl _) (by omega)) (zT_some ⟨e4, g4⟩)
    rintro M4 ⟨e4, g4⟩
    refine zT_some (zT_bd ?_)
    have g14 := (g2.tr (z271.sr g3)).tr (z271.sr g4)
    have h4 := h1.sc (zsr.sc g14)
    have gh := h.gd.hides (unit := unit) (s := k) hu (by omega)
    refine zT_w (X12_evenings (c := 1) h.md h4.ms h.ok h4.l18 (by rw [e4]; exact gh) (by omega) (by omega) (by omega)) ?_
    rintro M5 ⟨e5, g5⟩
    rw [e4] at e5
    replace e5 : M5 271 = G k := by rw [e5, hG]; rfl
    have f5 : rowF M5 = rowF M := by
      rw [← f3]
      refine zSt.rowR ((z271.sr g4).tr (mrA.sr g5)) e5 (fun j hj => ?_)
      rw [f3, hG]
      show eveF n (ruH ru) ru (hideS n unit k (rowF M)) j = _
      rw [eveF_fx gh (by omega) (by omega) (Or.inr hj)]
      unfold hideS
      rw [if_neg (by omega)]
    have c5 : ∀ j, M5 275 j = M2 275 j := fun j => by
      rw [g5 275 j (by unfold mrA tlA; omega), g4 275 j (by omega), g3 275 j (by omega)]
    have g15 := g14.tr (mrA.sr g5)
    refine zT_bd (zT_w (zCopy (M := M5) (A := 275) (B := 271) (f := 10 * k) (g := 0) (c := 10) (by omega) ?_ ?_ (fun e => absurd e (by decide))) ?_)
    · intro i M6 hi _ _
      show b_X12_rests_62 R M6 242 (nI unit) x2 (nI k) (nI i) = _
      unfold b_X12_rests_62
      have ix : (10 : Int32) * nI k + nI i = nI (10 * k + i) := by rw [nI_lit 10, pk_mul, nI_add]
      rw [r52, h.r46, ix, nI_lit 10, if_neg (nI_ge hi (by omega)), ztn_nI (by omega), ztn_nI (by omega), Nat.zero_add]
      unfold zck
      rw [if_pos (zin_nI (by omega) (by omega)), if_pos (zin_nI (by omega) (by omega))]
      rfl
    · intro M6 _
      show b_X12_rests_62 R M6 242 (nI unit) x2 (nI k) (nI 10) = _
      unfold b_X12_rests_62
      rw [if_pos (by decide)]
    · rintro M6 ⟨e6, g6⟩
      refine zT_some ⟨nI_1 _, g15.tr (g6.mo (fun b k e => by unfold zsr; omega)), ?_, fun s hs i hi => ?_⟩
      · show rowF M6 = rowF M
        rw [← f5]
        exact rowF_of rfl (g6.row (fun k => by omega)) (fun j hj => by rw [g6 271 j (by omega)]; unfold rowF; rw [if_neg (by omega)])
      · show M6 275 (10 * s + i) = _
        rw [e6]
        by_cases c : s = k
        · subst c
          rw [if_pos (by omega), e5, show 0 + (10 * s + i - 10 * s) = i by omega]
        · rw [if_neg (by omega), c5]
          exact d2 s (by omega) i hi
  · rintro ⟨y, M2⟩ ⟨rfl, g2, f2, d2⟩
    simp only at g2 d2 ⊢
    have h2 := h1.sc (zsr.sc g2)
    unfold b_X12_rests_35
    rw [h.r45, show M2 270 (ztn (40 : Int32)) = nI n from h2.n40, one_shl n8]
    exact zT_if1 (nI_le (Nat.le_refl _) (by omega)) (zT_some ⟨d2, g2⟩)
  rintro M2 ⟨d2, g2⟩
  have h2 := h1.sc (zsr.sc g2)
  have m40 : M2 270 (ztn (40 : Int32)) = nI n := h2.n40
  refine zT_bd ?_
  refine zT_w (zT_nth (N := 2 ^ n) (restB n G) x2 (by omega) ?_ ?_) ?_
  · intro c k hk hc
    unfold b_X12_rests_105
    have rest : f_X12_isResting R M2 242 (nI k) = some (if restB n G k = true then 1 else 0) := by
      apply zT_val
      unfold f_X12_isResting
      refine zT_bd ?_
      have cell : ∀ i, i < n → M2 275 (10 * (k ^^^ 2 ^ i) + i) = G (k ^^^ 2 ^ i) i ∧ M2 275 (10 * k + i) = G k i := fun i hi => ⟨d2 _ (xor_lt hk hi) i hi, d2 _ hk i hi⟩
      have step : ∀ i, i < n → ∀ Q : (Int32 ⊕ (Unit ⊕ Unit)) → Prop, (G (k ^^^ 2 ^ i) i ≤ G k i → Q (.inl (nI (i + 1)))) → (¬ G (k ^^^ 2 ^ i) i ≤ G k i → Q (.inr (.inl ()))) → zT (b_X12_isResting_2 R M2 242 (nI k) (nI i)) Q := fun i hi Q q1 q2 => by
        unfold b_X12_isResting_2
        have ix : (10 : Int32) * (nI k ^^^ ((1 : Int32) <<< (nI i &&& 31))) + nI i = nI (10 * (k ^^^ 2 ^ i) + i) := by rw [one_shl (by omega), nI_xor, nI_lit 10, pk_mul, nI_add]
        have ix2 : (10 : Int32) * nI k + nI i = nI (10 * k + i) := by rw [nI_lit 10, pk_mul, nI_add]
        have xl := xor_lt hk hi
        rw [ix, ix2, r52, h.r45, m40]
        refine zT_if0 (nI_ge hi (by omega)) (zT_ck (zin_nI (by omega) (by omega)) (zT_ck (zin_nI (by omega) (by omega)) ?_))
        rw [ztn_nI (by omega), ztn_nI (by omega), (cell i hi).1, (cell i hi).2]
        refine zT_if (fun c => zT_some ?_) (fun c => zT_some (q2 c))
        rw [nI_1]
        exact q1 c
      refine zT_seek n (fun i => !(decide (G (k ^^^ 2 ^ i) i ≤ G k i))) (fun i v => v = nI i) rfl (by omega) ?_ ?_ ?_
      · rintro i v hi rfl hp
        exact step i hi _ (fun _ => rfl) (fun c => absurd (by simpa using hp) c)
      · rintro i v hi rfl hp hseek
        refine step i hi _ (fun c => absurd c (by simpa using hp)) (fun _ => zT_some ?_)
        unfold restB
        rw [hseek]
        rfl
      · rintro v rfl hseek
        unfold b_X12_isResting_2
        rw [h.r45, m40]
        refine zT_if1 (nI_le (Nat.le_refl _) (by omega)) (zT_some (zT_some ?_))
        unfold restB
        rw [hseek]
        rfl
    rw [h.r45, m40, one_shl n8]
    refine zT_if0 (nI_ge hk (by omega)) (zT_bd (zT_eq rest ?_))
    by_cases hb : restB n G k = true
    · rw [if_pos hb, if_pos hb]
      refine zT_if0 (by decide) (zT_if (fun e => zT_some ?_) (fun e => zT_some ?_))
      · rw [if_pos e]
      · rw [if_neg e, nI_1, nI_1]
    · rw [if_neg hb, if_neg hb]
      refine zT_if1 rfl (zT_some ?_)
      rw [nI_1]
  · intro c
    unfold b_X12_rests_105
    rw [h.r45, m40, one_shl n8]
    exact zT_if1 (nI_le (Nat.le_refl _) (by omega)) (zT_some rfl)
  · rintro r rfl
    have ey2 : y = (nthF (restB n G) x2 (2 ^ n) 0 0).elim (fun k => nI k) (fun c => if x2 = -1 then nI c else -1) := by rw [← hA]; exact ey
    rw [ey2]
    cases nthF (restB n G) x2 (2 ^ n) 0 0 with
    | inl k => exact zT_some ⟨rfl, g2⟩
    | inr c =>
      refine zT_if (fun e => zT_some ⟨?_, g2⟩) (fun e => zT_some ⟨?_, g2⟩)
      · show nI c = if x2 = -1 then nI c else -1
        rw [if_pos e]
      · show -1 = if x2 = -1 then nI c else -1
        rw [if_neg e]
end TRY

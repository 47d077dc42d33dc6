/-! EVEN, SOONEST, START -/
def evenP (n : Nat) (how : Int32) (ru : zRu) (w : Nat → Int32) (d : Int32) (e : Nat) : Bool := !(decide (d < apartF n (evesF n how ru w e)))
def evenF (n : Nat) (how : Int32) (ru : zRu) (w : Nat → Int32) (d : Int32) : Int32 := (seekF (evenP n how ru w d) 301 0).elim (-2) nI
theorem evenP_f {n : Nat} {how : Int32} {ru : zRu} {w : Nat → Int32} {d : Int32} {e : Nat} (h : evenP n how ru w d e = false) : d < apartF n (evesF n how ru w e) := by
  unfold evenP at h
  simpa using h
theorem evenP_t {n : Nat} {how : Int32} {ru : zRu} {w : Nat → Int32} {d : Int32} {e : Nat} (h : evenP n how ru w d e = true) : ¬ d < apartF n (evesF n how ru w e) := by
  unfold evenP at h
  simpa using h
theorem evenF_in (n : Nat) (how : Int32) (ru : zRu) (w : Nat → Int32) (d : Int32) : evenF n how ru w d = -2 ∨ ∃ e, e ≤ 300 ∧ evenF n how ru w d = nI e := by
  unfold evenF
  cases h : seekF (evenP n how ru w d) 301 0 with
  | none => exact Or.inl rfl
  | some e =>
    obtain ⟨_, b, _⟩ := seekF_lt _ _ _ h
    exact Or.inr ⟨e, by omega, rfl⟩
/-- the answers of the three, the first of the least -/
def soonS (v : Nat → Int32) : Nat → Int32 × Int32
  | 0 => (-2, 301)
  | k + 1 => if v k < 0 then soonS v k else if (soonS v k).2 ≤ v k then soonS v k else (nI k, v k)
/-- the first of the greatest -/
def topI (v : Nat → Int32) : Nat → Nat
  | 0 => 0
  | k + 1 => if v (k + 1) ≤ v (topI v k) then topI v k else k + 1
theorem topI_le (v : Nat → Int32) : ∀ k, topI v k ≤ k
  | 0 => Nat.le_refl _
  | k + 1 => by
    unfold topI
    have := topI_le v k
    split <;> omega
section TRY
variable {R : zR} {M : zM} {ru : zRu} {q l n T S u x : Nat}
theorem X1_even (h : zSt R M ru q l n T S u x) (hT : T + 3100000 < 2147483648) (hS : S + 400 < 2147483648) (d : Int32) {how : Int32} (hh : how = 0 ∨ how = 1 ∨ how = 2) : zT (f_X1_evenAfter R M 187 q 13 d how) (fun p => p.1 = evenF n how ru (rowF M) d ∧ zag zsk M p.2) := by
  obtain ⟨t0, t1, t2, -⟩ := h.rt
  have ht : zTr 188 := by unfold zTr; omega
  unfold f_X1_evenAfter
  rw [t0]
  refine zT_bd (zT_w (h.copyC t2 ht) ?_)
  rintro M1 ⟨w1, g1, f1⟩
  refine zT_bd ?_
  refine zT_seek 301 (evenP n how ru (rowF M) d) (fun k v => v.1 = nI k ∧ RW v.2 188 n (evesF n how ru (rowF M) k) ∧ zag zst M v.2) ⟨rfl, w1, g1⟩ (by omega) ?_ ?_ ?_
  · rintro k ⟨y, M2⟩ hk ⟨rfl, w2, g2⟩ hp
    simp only at w2 g2 ⊢
    unfold b_X1_evenAfter_11
    rw [t0]
    refine zT_if0 (by rw [nI_lit 300]; exact nI_nlt (by omega) (by omega)) (zT_bd (zT_eq (X6_spread t2 w2) (zT_if1 (evenP_f hp) (zT_bd ?_))))
    refine zT_w ((h.sc (zst.sc g2)).eveC t2 ht w2 (h.gd.eves k (by omega) (by omega)) (by omega) hh) ?_
    rintro M3 ⟨w3, g3, f3⟩
    exact zT_some ⟨nI_1 k, w3, g2.tr g3⟩
  · rintro k ⟨y, M2⟩ hk ⟨rfl, w2, g2⟩ hp hs
    simp only at w2 g2 ⊢
    unfold b_X1_evenAfter_11
    rw [t0]
    refine zT_if0 (by rw [nI_lit 300]; exact nI_nlt (by omega) (by omega)) (zT_bd (zT_eq (X6_spread t2 w2) (zT_if0 (evenP_t hp) (zT_some (zT_some ⟨?_, zst.sk g2⟩)))))
    unfold evenF
    rw [hs]
    rfl
  · rintro ⟨y, M2⟩ ⟨rfl, w2, g2⟩ hs
    simp only at w2 g2 ⊢
    unfold b_X1_evenAfter_11
    refine zT_if1 (by decide) (zT_some (zT_some ⟨?_, zst.sk g2⟩))
    unfold evenF
    rw [hs]
    rfl
theorem X12_evenBy (h : zSt R M ru q l n T S u x) (hT : T + 3100000 < 2147483648) (hS : S + 400 < 2147483648) (d : Int32) {how : Int32} (hh : how = 0 ∨ how = 1 ∨ how = 2) : zT (f_X12_evenBy R M 242 d how) (fun p => p.1 = evenF n how ru (rowF M) d ∧ zag zsr M p.2 ∧ rowF p.2 = rowF M) := by
  unfold f_X12_evenBy
  refine zT_bd (zT_w h.copyR ?_)
  rintro M1 ⟨e1, g1, f1⟩
  refine zT_bd ?_
  have hi : ∀ k, k ≤ 301 → ∀ j, 60 ≤ j → evesF n how ru (rowF M) k j = rowF M j := fun k hk j hj => evesF_fx h.gd (Or.inr hj) k (by omega) (by omega)
  refine zT_seek 301 (evenP n how ru (rowF M) d) (fun k v => v.1 = nI k ∧ v.2 271 = evesF n how ru (rowF M) k ∧ zag zsr M v.2) ⟨rfl, e1, g1⟩ (by omega) ?_ ?_ ?_
  · rintro k ⟨y, M2⟩ hk ⟨rfl, e2, g2⟩ hp
    simp only at e2 g2 ⊢
    unfold b_X12_evenBy_6
    have gk := h.gd.eves (how := how) (ru := ru) k (by omega) (by omega)
    refine zT_if0 (by rw [nI_lit 300]; exact nI_nlt (by omega) (by omega)) (zT_bd (zT_eq (X12_apartNow h.md h.n10 (by rw [e2]; exact gk.2.1)) (zT_if1 (by rw [e2]; exact evenP_f hp) (zT_bd ?_))))
    refine zT_w ((h.sc (zsr.sc g2)).eveR (by rw [e2]; exact gk) (by omega) (by omega) hh) ?_
    rintro M3 ⟨e3, g3⟩
    exact zT_some ⟨nI_1 k, by show M3 271 = _; rw [e3, e2]; rfl, g2.tr g3⟩
  · rintro k ⟨y, M2⟩ hk ⟨rfl, e2, g2⟩ hp hs
    simp only at e2 g2 ⊢
    unfold b_X12_evenBy_6
    have gk := h.gd.eves (how := how) (ru := ru) k (by omega) (by omega)
    refine zT_if0 (by rw [nI_lit 300]; exact nI_nlt (by omega) (by omega)) (zT_bd (zT_eq (X12_apartNow h.md h.n10 (by rw [e2]; exact gk.2.1)) (zT_if0 (by rw [e2]; exact evenP_t hp) (zT_some (zT_some ⟨?_, g2, zSt.rowR g2 e2 (hi k (by omega))⟩)))))
    unfold evenF
    rw [hs]
    rfl
  · rintro ⟨y, M2⟩ ⟨rfl, e2, g2⟩ hs
    simp only at e2 g2 ⊢
    unfold b_X12_evenBy_6
    refine zT_if1 (by decide) (zT_some (zT_some ⟨?_, g2, zSt.rowR g2 e2 (hi 301 (by omega))⟩))
    unfold evenF
    rw [hs]
    rfl
theorem how_of {y : Int32} (h : ¬ (y < 0 ∨ 2 < y)) : y = 0 ∨ y = 1 ∨ y = 2 := by
  obtain ⟨d, hd, rfl⟩ := nI_upto (e := 2) (fun q => h (Or.inl q)) (i_le_of (fun q => h (Or.inr q))) (by omega)
  rcases (show d = 0 ∨ d = 1 ∨ d = 2 by omega) with rfl | rfl | rfl
  · exact Or.inl rfl
  · exact Or.inr (Or.inl rfl)
  · exact Or.inr (Or.inr rfl)
theorem zEven (h : zSt R M ru q l n T S u x) (hT : T + 3100000 < 2147483648) (hS : S + 400 < 2147483648) (d how : Int32) : zAns R M ru q l n T S u x (f_X11_even R M 2 d how) (fun M1 => f_X12_even R M1 242 d how) := by
  unfold zAns f_X11_even f_X12_even
  rw [h.x2, h.q8, h.xr.2.2.2.2.1]
  by_cases h0 : d < 0
  · exact zT_if1 h0 (zT_some ⟨zag.rf, zT_if1 h0 (zT_some ⟨rfl, zag.rf⟩)⟩)
  refine zT_if0 h0 ?_
  by_cases hy : how < 0 ∨ 2 < how
  · have no : zT (if d < 0 then some ((-1 : Int32), M) else zbd (f_X12_in how (0 : Int32) (2 : Int32)) fun r2 => if r2 = 0 then some ((-1 : Int32), M) else zbd2 (f_X12_evenBy R M 242 d how) fun r5 M6 => some (r5, M6)) (fun p1 => p1.1 = -1 ∧ zag zsr M p1.2) := zT_if0 h0 (zT_bd (zT_eq (in_n hy) (zT_if1 rfl (zT_some ⟨rfl, zag.rf⟩))))
    refine zT_if (fun _ => zT_some ⟨zag.rf, no⟩) (fun e => zT_if0 ?_ (zT_some ⟨zag.rf, no⟩))
    rw [Int32.not_le]
    exact hy.resolve_left e
  have hh := how_of hy
  refine zT_if0 (fun e => hy (Or.inl e)) (zT_if1 (i_le_of (fun e => hy (Or.inr e))) (zT_bd2 (zT_w (X1_even h hT hS d hh) ?_)))
  rintro ⟨y, M1⟩ ⟨e1, g1⟩
  refine zT_some ⟨g1, zT_if0 h0 (zT_bd (zT_eq (in_y (fun e => hy (Or.inl e)) (fun e => hy (Or.inr e))) (zT_if0 (by decide) (zT_bd2 (zT_w (X12_evenBy (h.sc (zsk.sc g1)) hT hS d hh) ?_)))))⟩
  rintro ⟨z, M2⟩ ⟨e2, g2, f2⟩
  refine zT_some ⟨?_, g2⟩
  show z = y
  rw [show z = _ from e2, show y = _ from e1, zsk.rws g1]
theorem how_nI {k : Nat} (hk : k < 3) : nI k = 0 ∨ nI k = 1 ∨ nI k = 2 := by
  rcases (show k = 0 ∨ k = 1 ∨ k = 2 by omega) with rfl | rfl | rfl
  · exact Or.inl rfl
  · exact Or.inr (Or.inl rfl)
  · exact Or.inr (Or.inr rfl)
theorem zSoonest (h : zSt R M ru q l n T S u x) (hT : T + 3100000 < 2147483648) (hS : S + 400 < 2147483648) (d : Int32) : zAns R M ru q l n T S u x (f_X11_soonest R M 2 d) (fun M1 => f_X12_soonest R M1 242 d) := by
  unfold zAns f_X11_soonest f_X12_soonest
  rw [h.x2, h.q8, h.xr.2.2.2.2.1]
  by_cases h0 : 0 ≤ d
  rotate_left
  · exact zT_if0 h0 (zT_some ⟨zag.rf, zT_if0 h0 (zT_some ⟨rfl, zag.rf⟩)⟩)
  refine zT_if1 h0 (zT_bd2 ?_)
  unfold f_X1_soonestSharing
  obtain ⟨v, hv⟩ : ∃ v : Nat → Int32, v = fun k => evenF n (nI k) ru (rowF M) d := ⟨_, rfl⟩
  refine zT_bd ?_
  refine zT_w (Q := fun e7 : Int32 × zM => e7.1 = (soonS v 3).1 ∧ zag zsk M e7.2) (zT_for 3 (fun k z => z.1 = (soonS v k).1 ∧ z.2.1 = (soonS v k).2 ∧ z.2.2.1 = nI k ∧ zag zsk M z.2.2.2) ⟨rfl, rfl, rfl, zag.rf⟩ (by omega) ?_ ?_) ?_
  · rintro k ⟨a, b, c, M1⟩ hk ⟨e1, e2, rfl, g1⟩
    simp only at e1 e2 g1 ⊢
    unfold b_X1_soonestSharing_12
    refine zT_if0 (by rw [nI_lit 2]; exact nI_nlt (by omega) (by omega)) (zT_bd2 (zT_w (X1_even (h.sc (zsk.sc g1)) hT hS d (how_nI hk)) ?_))
    rintro ⟨y, M2⟩ ⟨e3, g2⟩
    rw [zsk.rws g1] at e3
    replace e3 : y = v k := by rw [hv]; exact e3
    simp only at g2 ⊢
    rw [e3]
    have e4 : soonS v (k + 1) = if v k < 0 then soonS v k else if (soonS v k).2 ≤ v k then soonS v k else (nI k, v k) := rfl
    refine zT_if (fun c1 => zT_some ?_) (fun c1 => zT_if (fun c2 => zT_some ?_) (fun c2 => zT_some ?_))
    · rw [if_pos c1] at e4
      rw [e4]
      exact ⟨e1, e2, nI_1 k, g1.tr g2⟩
    · rw [if_neg c1, if_pos (by rw [← e2]; exact c2)] at e4
      rw [e4]
      exact ⟨e1, e2, nI_1 k, g1.tr g2⟩
    · rw [if_neg c1, if_neg (by rw [← e2]; exact c2)] at e4
      rw [e4]
      exact ⟨rfl, rfl, nI_1 k, g1.tr g2⟩
  · rintro ⟨a, b, c, M1⟩ ⟨e1, e2, rfl, g1⟩
    simp only at e1 e2 g1 ⊢
    unfold b_X1_soonestSharing_12
    exact zT_if1 (by decide) (zT_some ⟨e1, g1⟩)
  rintro ⟨y, M1⟩ ⟨e1, g1⟩
  simp only at e1 g1
  refine zT_some (zT_some ⟨g1, zT_if1 h0 (zT_bd ?_)⟩)
  have h1 := h.sc (zsk.sc g1)
  have f1 := zsk.rws g1
  show zT _ _
  refine zT_for 3 (fun k z => z.1 = (soonS v k).1 ∧ ((z.1 = -2 ∧ (soonS v k).2 = 301) ∨ (0 ≤ z.1 ∧ z.2.1 = (soonS v k).2)) ∧ z.2.2.1 = nI k ∧ zag zsr M1 z.2.2.2 ∧ rowF z.2.2.2 = rowF M) ⟨rfl, Or.inl ⟨rfl, rfl⟩, rfl, zag.rf, f1⟩ (by omega) ?_ ?_
  · rintro k ⟨a, b, c, M2⟩ hk ⟨e2, e3, rfl, g2, f2⟩
    simp only at e2 e3 g2 f2 ⊢
    unfold b_X12_soonest_14 j_X12_soonest_47
    refine zT_if0 (by rw [nI_lit 3]; exact nI_ge (by omega) (by omega)) (zT_bd2 (zT_w (X12_evenBy (h1.sc (zsr.sc g2)) hT hS d (how_nI hk)) ?_))
    rintro ⟨y2, M3⟩ ⟨e4, g3, f3⟩
    rw [f2] at e4
    replace e4 : y2 = v k := by rw [hv]; exact e4
    simp only at g3 f3 ⊢
    rw [e4]
    have e5 : soonS v (k + 1) = if v k < 0 then soonS v k else if (soonS v k).2 ≤ v k then soonS v k else (nI k, v k) := rfl
    have vin : v k = -2 ∨ ∃ e, e ≤ 300 ∧ v k = nI e := by rw [hv]; exact evenF_in _ _ _ _ _
    refine zT_if (fun c1 => zT_some ?_) (fun c1 => ?_)
    · rw [if_pos c1] at e5
      rw [e5]
      exact ⟨e2, e3, nI_1 k, g2.tr g3, f3.trans f2⟩
    rw [if_neg c1] at e5
    obtain ⟨e, he, ee⟩ : ∃ e, e ≤ 300 ∧ v k = nI e := by
      rcases vin with q | q
      · exact absurd (by rw [q]; decide) c1
      · exact q
    have fin : (nI k = (nI k, v k).1 ∧ ((nI k = -2 ∧ (nI k, v k).2 = 301) ∨ (0 ≤ nI k ∧ v k = (nI k, v k).2)) ∧ nI k + 1 = nI (k + 1) ∧ zag zsr M1 M3 ∧ rowF M3 = rowF M) := ⟨rfl, Or.inr ⟨nI_pos' (by omega), rfl⟩, nI_1 k, g2.tr g3, f3.trans f2⟩
    rcases e3 with ⟨q1, q2⟩ | ⟨q1, q2⟩
    · refine zT_if1 (by rw [q1]; decide) (zT_some ?_)
      rw [q2, ee, if_neg (by rw [nI_lit 301]; exact nI_ge (by omega) (by omega)), ← ee] at e5
      rw [e5]
      exact fin
    · refine zT_if0 (fun z => Int32.lt_irrefl (Int32.lt_of_lt_of_le z q1)) (zT_if (fun c2 => zT_some ?_) (fun c2 => zT_some ?_))
      · rw [if_neg (by rw [← q2, Int32.not_le]; exact c2)] at e5
        rw [e5]
        exact fin
      · rw [if_pos (by rw [← q2]; exact i_le_of c2)] at e5
        rw [e5]
        exact ⟨e2, Or.inr ⟨q1, q2⟩, nI_1 k, g2.tr g3, f3.trans f2⟩
  · rintro ⟨a, b, c, M2⟩ ⟨e2, e3, rfl, g2, f2⟩
    simp only at e2 g2 ⊢
    unfold b_X12_soonest_14
    refine zT_if1 (by decide) (zT_some (zT_some ⟨?_, g2⟩))
    show a = y
    rw [e1, e2]
theorem zStart (h : zSt R M ru q l n T S u x) (hT : T + 3100000 < 2147483648) (hS : S + 400 < 2147483648) (x1 x2 : Int32) : zAns R M ru q l n T S u x (f_X11_start R M 2 x1 x2) (fun M1 => f_X12_start R M1 242 x1 x2) := by
  have hn := h.n10
  have hq := h.qq
  obtain ⟨t0, t1, t2, t3, t4, -⟩ := h.rt
  have ht : zTr 195 := by unfold zTr; omega
  have m4 : M 13 4 = nI n := h.rw0.2.1
  unfold zAns f_X11_start f_X12_start
  rw [h.x2, h.q8, h.xr.2.2.2.2.2.1]
  rcases nI_cases x1 n (by omega) with ⟨a, ha, rfl⟩ | hx1
  rotate_left
  · exact zT_bd (zT_eq (hz_no h.rw0 hx1) (zT_if1 rfl (zT_some ⟨zag.rf, zT_bd (zT_eq (zHn h.md hn h.n40 hx1) (zT_if1 rfl (zT_some ⟨rfl, zag.rf⟩)))⟩)))
  refine zT_bd (zT_eq (hz_yes h.rw0 ha) (zT_if0 (by decide) ?_))
  have no : x2 < 0 ∨ 1 < x2 → zT (some ((-1 : Int32), M)) (fun p => zag zsk M p.2 ∧ zT (zbd (f_X12_isHouse R p.2 242 (nI a)) fun r1 => if r1 = 0 then some ((-1 : Int32), p.2) else zbd (f_X12_in x2 (0 : Int32) (1 : Int32)) fun r4 => if r4 = 0 then some ((-1 : Int32), p.2) else zbd (zloop zN (fun v => b_X12_start_27 R v.2.2.2 242 (nI a) x2 v.1 v.2.1 v.2.2.1) ((-1 : Int32), (0 : Int32), (0 : Int32), p.2)) fun e16 => if x2 = 0 then some (e16.1, e16.2.2) else some (e16.2.1, e16.2.2)) (fun p1 => p1.1 = p.1 ∧ zag zsr p.2 p1.2)) := fun hy => zT_some ⟨zag.rf, zT_bd (zT_eq (zHy h.md hn h.n40 ha) (zT_if0 (by decide) (zT_bd (zT_eq (in_n hy) (zT_if1 rfl (zT_some ⟨rfl, zag.rf⟩))))))⟩
  by_cases h0 : x2 < 0
  · exact zT_if1 h0 (no (Or.inl h0))
  refine zT_if0 h0 ?_
  by_cases h1' : x2 ≤ 1
  rotate_left
  · exact zT_if0 h1' (no (Or.inr (i_lt_of h1')))
  refine zT_if1 h1' (zT_bd ?_)
  unfold f_X0_findStart
  obtain ⟨v, hv⟩ : ∃ v : Nat → Int32, v = fun k => turnsS n ru k (rowF M) n a := ⟨_, rfl⟩
  have vnn : ∀ k, -1 < v k := fun k => by
    obtain ⟨_, _, _, p, _, _, hp, _⟩ := h.gd.GturnsS (ru := ru) (s := k) (by omega) n (Nat.le_refl _)
    obtain ⟨pa, -, -⟩ := hp a ha
    rw [hv]
    show -1 < turnsS n ru k (rowF M) n a
    have hs := (h.gd.GturnsS (ru := ru) (s := k) (by omega) n (Nat.le_refl _))
    obtain ⟨_, _, _, p', _, pot', hp', _, hsum⟩ := hs
    obtain ⟨pa', -, -⟩ := hp' a ha
    have := sumN_le (p := p') n a ha
    rw [pa']
    exact Int32.lt_of_lt_of_le (by decide) (nI_pos' (by omega))
  refine zT_lt (zT_bd ?_)
  refine zT_w (Q := fun M1 : zM => M1 194 2 = nI (topI v (n - 1)) ∧ M1 194 3 = v (topI v (n - 1)) ∧ zag zsk M M1) (zT_for n (fun k z => z.1 = nI k ∧ zag zsk M z.2 ∧ (k = 0 → z.2 194 3 = -1) ∧ (0 < k → z.2 194 2 = nI (topI v (k - 1)) ∧ z.2 194 3 = v (topI v (k - 1)))) ⟨rfl, zag.rf.up (Or.inl ⟨by omega, by omega⟩), fun _ => by dsimp only; exact zup_same, fun q => absurd q (by omega)⟩ (by omega) ?_ ?_) ?_
  · rintro k ⟨y, M1⟩ hk ⟨rfl, g1, k0, k1⟩
    simp only at g1 k0 k1 ⊢
    have h1 := h.sc (zsk.sc g1)
    unfold b_X0_findStart_8
    rw [t3, show M1 13 4 = nI n from h1.rw0.2.1]
    refine zT_if0 (nI_ge hk (by omega)) (zT_bd (zT_w (h1.copyC t4 ht) ?_))
    rintro M2 ⟨w2, g2, f2⟩
    rw [zsk.rws g1] at w2
    have h2 := h1.sc (zst.sc g2)
    refine zT_bd (zT_w (X7_payByTurns h2.cr h.ok t4 w2 (by omega) (Or.inl hk)) ?_)
    rintro M3 ⟨w3, g3⟩
    have g13 := g2.tr (clA.st g3 ht hq)
    refine zT_bd (zT_eq (X6_purseOf t4 w3 ha) (zT_bd ?_))
    have ev : turnsS n ru k (rowF M) n a = v k := by rw [hv]
    rw [ev]
    have c2 : M3 194 2 = M1 194 2 := g13 _ _ (by unfold zst; omega)
    have c3 : M3 194 3 = M1 194 3 := g13 _ _ (by unfold zst; omega)
    have g3k := g1.tr (zst.sk g13)
    unfold f_X0_better
    rw [c3]
    have sets : zT (zlt (zup M3 194 3 (v k)) fun M2 => zlt (zup M2 194 1 0) fun M3 => zlt (zup M3 194 2 (nI k)) fun M4 => some M4) (fun M4 => zag zsk M M4 ∧ M4 194 2 = nI k ∧ M4 194 3 = v k) := by
      refine zT_lt (zT_lt (zT_lt (zT_some ⟨((g3k.up (Or.inl ⟨by omega, by omega⟩)).up (Or.inl ⟨by omega, by omega⟩)).up (Or.inl ⟨by omega, by omega⟩), zup_same, ?_⟩)))
      rw [zup_k (by omega), zup_k (by omega), zup_same]
    by_cases kz : k = 0
    · subst kz
      rw [k0 rfl]
      refine zT_if1 (vnn 0) (zT_w sets ?_)
      rintro M4 ⟨s1, s2, s3⟩
      exact zT_some ⟨nI_1 _, s1, fun q => absurd q (by omega), fun _ => ⟨s2, s3⟩⟩
    · obtain ⟨q1, q2⟩ := k1 (by omega)
      have e5 : topI v k = if v k ≤ v (topI v (k - 1)) then topI v (k - 1) else k := by
        obtain ⟨j, rfl⟩ : ∃ j, k = j + 1 := ⟨k - 1, by omega⟩
        rfl
      rw [q2]
      refine zT_if (fun c => zT_w sets ?_) (fun c => zT_some (zT_some ⟨nI_1 _, g3k, fun q => absurd q (by omega), fun _ => ?_⟩))
      · rintro M4 ⟨s1, s2, s3⟩
        rw [if_neg (by rw [Int32.not_le]; exact c)] at e5
        refine zT_some ⟨nI_1 _, s1, fun q => absurd q (by omega), fun _ => ?_⟩
        rw [Nat.add_sub_cancel, e5]
        exact ⟨s2, s3⟩
      · rw [if_pos (i_le_of c)] at e5
        rw [Nat.add_sub_cancel, e5]
        exact ⟨c2.trans q1, c3.trans q2⟩
  · rintro ⟨y, M1⟩ ⟨rfl, g1, k0, k1⟩
    simp only at g1 k0 k1 ⊢
    have h1 := h.sc (zsk.sc g1)
    unfold b_X0_findStart_8
    rw [show M1 13 4 = nI n from h1.rw0.2.1]
    obtain ⟨q1, q2⟩ := k1 (by omega)
    exact zT_if1 (nI_le (Nat.le_refl _) (by omega)) (zT_some ⟨q1, q2, g1⟩)
  rintro M1 ⟨q1, q2, g1⟩
  refine zT_some ?_
  have h1 := h.sc (zsk.sc g1)
  have f1 := zsk.rws g1
  have rf : zT (zbd (f_X12_isHouse R M1 242 (nI a)) fun r1 => if r1 = 0 then some ((-1 : Int32), M1) else zbd (f_X12_in x2 (0 : Int32) (1 : Int32)) fun r4 => if r4 = 0 then some ((-1 : Int32), M1) else zbd (zloop zN (fun v => b_X12_start_27 R v.2.2.2 242 (nI a) x2 v.1 v.2.1 v.2.2.1) ((-1 : Int32), (0 : Int32), (0 : Int32), M1)) fun e16 => if x2 = 0 then some (e16.1, e16.2.2) else some (e16.2.1, e16.2.2)) (fun p1 => p1.1 = (if x2 = 0 then nI (topI v (n - 1)) else v (topI v (n - 1))) ∧ zag zsr M1 p1.2) := by
    refine zT_bd (zT_eq (zHy h.md hn h1.n40 ha) (zT_if0 (by decide) (zT_bd (zT_eq (in_y h0 (by rw [Int32.not_lt]; exact h1')) (zT_if0 (by decide) (zT_bd ?_))))))
    refine zT_w (Q := fun e : Int32 × Int32 × zM => e.1 = nI (topI v (n - 1)) ∧ e.2.1 = v (topI v (n - 1)) ∧ zag zsr M1 e.2.2) (zT_for n (fun k z => z.2.2.1 = nI k ∧ zag zsr M1 z.2.2.2 ∧ rowF z.2.2.2 = rowF M ∧ (k = 0 → z.1 = -1) ∧ (0 < k → z.1 = nI (topI v (k - 1)) ∧ z.2.1 = v (topI v (k - 1)))) ⟨rfl, zag.rf, f1, fun _ => rfl, fun q => absurd q (by omega)⟩ (by omega) ?_ ?_) ?_
    · rintro k ⟨y1, y2, y3, M2⟩ hk ⟨rfl, g2, f2, k0, k1⟩
      simp only at g2 f2 k0 k1 ⊢
      have h2 := h1.sc (zsr.sc g2)
      unfold b_X12_start_27 j_X12_start_68
      rw [h.r45, h.r46, show M2 270 (ztn (40 : Int32)) = nI n from h2.n40]
      refine zT_if0 (nI_ge hk (by omega)) (zT_bd (zT_w h2.copyR ?_))
      rintro M3 ⟨e3, g3, f3⟩
      rw [f2] at e3 f3
      have h3 := h2.sc (zsr.sc g3)
      refine zT_bd (zT_w (X12_payTurns h.md (s := k) h3.ms h3.l18 (by rw [e3]; exact h.gd) (by omega) (by omega) (tu := 1) (by decide)) ?_)
      rintro M4 ⟨e4, g4⟩
      rw [e3] at e4
      have g4 := mrA.sr g4
      have g24 := (g2.tr g3).tr g4
      have f4 : rowF M4 = rowF M := by rw [← f3]; exact zSt.rowR g4 e4 (fun j hj => by rw [f3]; exact turnsS_fx hn (Or.inr hj) n (Nat.le_refl _))
      have hz := zin_nI (k := a) (n := 60) (by omega) (by omega)
      have ev : M4 271 a = v k := by rw [e4, hv]
      rw [ztn_nI (by omega), ev]
      by_cases kz : k = 0
      · subst kz
        rw [k0 rfl]
        exact zT_if1 (by decide) (zT_ck hz (zT_some ⟨nI_1 _, g24, f4, fun q => absurd q (by omega), fun _ => ⟨rfl, rfl⟩⟩))
      · obtain ⟨r1, r2⟩ := k1 (by omega)
        have tl := topI_le v (k - 1)
        have e5 : topI v k = if v k ≤ v (topI v (k - 1)) then topI v (k - 1) else k := by
          obtain ⟨j, rfl⟩ : ∃ j, k = j + 1 := ⟨k - 1, by omega⟩
          rfl
        rw [r1, r2]
        refine zT_if0 (nI_pos (by omega)) (zT_ck hz (zT_if (fun c => zT_ck hz (zT_some ⟨nI_1 _, g24, f4, fun q => absurd q (by omega), fun _ => ?_⟩)) (fun c => zT_some ⟨nI_1 _, g24, f4, fun q => absurd q (by omega), fun _ => ?_⟩)))
        · rw [if_neg (by rw [Int32.not_le]; exact c)] at e5
          rw [Nat.add_sub_cancel, e5]
          exact ⟨rfl, rfl⟩
        · rw [if_pos (i_le_of c)] at e5
          rw [Nat.add_sub_cancel, e5]
          exact ⟨rfl, rfl⟩
    · rintro ⟨y1, y2, y3, M2⟩ ⟨rfl, g2, f2, k0, k1⟩
      simp only at g2 f2 k0 k1 ⊢
      have h2 := h1.sc (zsr.sc g2)
      unfold b_X12_start_27
      rw [h.r45, show M2 270 (ztn (40 : Int32)) = nI n from h2.n40]
      obtain ⟨r1, r2⟩ := k1 (by omega)
      exact zT_if1 (nI_le (Nat.le_refl _) (by omega)) (zT_some ⟨r1, r2, g2⟩)
    · rintro ⟨y1, y2, M2⟩ ⟨r1, r2, g2⟩
      simp only at r1 r2 g2 ⊢
      refine zT_if (fun c => zT_some ⟨?_, g2⟩) (fun c => zT_some ⟨?_, g2⟩)
      · rw [if_pos c]; exact r1
      · rw [if_neg c]; exact r2
  rw [q1, q2]
  refine zT_if (fun c => zT_some ⟨g1, ?_⟩) (fun c => zT_some ⟨g1, ?_⟩)
  · rw [if_pos c] at rf
    exact rf
  · rw [if_neg c] at rf
    exact rf
end TRY

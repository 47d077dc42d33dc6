/-! BEST -/
/-- of the houses o, all by k units: the first of the greatest -/
def bestI (v : Nat → Nat → Int32) (unit h k : Nat) (t : Int32 × Int32 × Int32) : Nat → Int32 × Int32 × Int32
  | 0 => t
  | o + 1 => if o = h then bestI v unit h k t o else if v k o ≤ (bestI v unit h k t o).2.2 then bestI v unit h k t o else (nI (k * unit), nI o, v k o)
def bestO (v : Nat → Nat → Int32) (unit h n e : Nat) : Nat → Nat → Int32 × Int32 × Int32 → Int32 × Int32 × Int32
  | 0, _, t => t
  | m + 1, k, t => if e < k * unit then t else bestO v unit h n e m (k + 1) (bestI v unit h k t n)
section TRY
variable {R : zR} {M : zM} {ru : zRu} {q l n T S u x : Nat}
theorem X0_best (h : zSt R M ru q l n T S u x) (hT : T + 3100000 < 2147483648) (hS : S + 400 < 2147483648) {a e unit c : Nat} (ha : a < n) (ee : shF (rowF M) a = nI e) (he : e ≤ T) (hu : unit ≤ 999) (hc : c ≤ 30) {v : Nat → Nat → Int32} (hv : v = fun k o => evesF n (ruH ru) ru (moveF (rowF M) a o (nI (k * unit))) c a) {ans : Int32 × Int32 × Int32} (hA : bestO v unit a n e 20 1 (0, -2, evesF n (ruH ru) ru (rowF M) c a) = ans) : zT (f_X0_findBestGift R M 194 q 13 (nI a) (nI unit) (nI c)) (fun M1 => M1 194 1 = ans.1 ∧ M1 194 2 = ans.2.1 ∧ M1 194 3 = ans.2.2 ∧ zag zsk M M1) := by
  have hn := h.n10
  obtain ⟨t0, t1, t2, t3, t4, -⟩ := h.rt
  have ht : zTr 195 := by unfold zTr; omega
  unfold f_X0_findBestGift
  rw [t3]
  refine zT_bd (zT_w (h.copyC t4 ht) ?_)
  rintro M1 ⟨w1, g1, f1⟩
  have h1 := h.sc (zst.sc g1)
  rw [h1.how]
  refine zT_bd (zT_w (h1.evesC t4 ht w1 h.gd (by omega) (by omega) (by omega) h.ok.1) ?_)
  rintro M2 ⟨w2, g2, f2⟩
  have g12 := g1.tr g2
  refine zT_lt ?_
  have w3 : RW (zup M2 194 3 (-1)) 195 n (evesF n (ruH ru) ru (rowF M) c) := w2.cells (fun b k q1 q2 => zup_a (by omega))
  have g3 : zag zsk M (zup M2 194 3 (-1)) := (zst.sk g12).up (Or.inl ⟨by omega, by omega⟩)
  have c3 : zup M2 194 3 (-1) 194 3 = -1 := zup_same
  generalize zup M2 194 3 (-1) = M3 at w3 g3 c3 ⊢
  refine zT_bd (zT_eq (X6_purseOf t4 w3 ha) (zT_bd ?_))
  have pos : -1 < evesF n (ruH ru) ru (rowF M) c a := by
    obtain ⟨_, _, _, p', _, pot', hp', _, hsum⟩ := h.gd.eves (how := ruH ru) (ru := ru) c (by omega) (by omega)
    obtain ⟨pa', -, -⟩ := hp' a ha
    have := sumN_le (p := p') n a ha
    rw [pa']
    exact Int32.lt_of_lt_of_le (by decide) (nI_pos' (by omega))
  unfold f_X0_better
  rw [c3]
  refine zT_if1 pos (zT_lt (zT_lt (zT_lt (zT_some ?_))))
  have sets : ∀ (M4 : zM) (y1 y2 y3 : Int32), zag zsk M M4 → zag zsk M (zup (zup (zup M4 194 3 y3) 194 1 y1) 194 2 y2) ∧ zup (zup (zup M4 194 3 y3) 194 1 y1) 194 2 y2 194 1 = y1 ∧ zup (zup (zup M4 194 3 y3) 194 1 y1) 194 2 y2 194 2 = y2 ∧ zup (zup (zup M4 194 3 y3) 194 1 y1) 194 2 y2 194 3 = y3 := fun M4 y1 y2 y3 g => by
    refine ⟨((g.up (Or.inl ⟨by omega, by omega⟩)).up (Or.inl ⟨by omega, by omega⟩)).up (Or.inl ⟨by omega, by omega⟩), ?_, zup_same, ?_⟩
    · rw [zup_k (by omega), zup_same]
    · rw [zup_k (by omega), zup_k (by omega), zup_same]
  obtain ⟨s1, s2, s3, s4⟩ := sets M3 0 (-2) (evesF n (ruH ru) ru (rowF M) c a) g3
  generalize zup (zup (zup M3 194 3 (evesF n (ruH ru) ru (rowF M) c a)) 194 1 0) 194 2 (-2) = M4 at s1 s2 s3 s4 ⊢
  refine zT_bd ?_
  refine zT_loop (fun m z => ∃ (k : Nat) (t : Int32 × Int32 × Int32), m + k = 21 ∧ 1 ≤ k ∧ z.1 = nI k ∧ zag zsk M z.2 ∧ z.2 194 1 = t.1 ∧ z.2 194 2 = t.2.1 ∧ z.2 194 3 = t.2.2 ∧ bestO v unit a n e m k t = ans) 20 ⟨1, _, rfl, by omega, rfl, s1, s2, s3, s4, hA⟩ (by omega) ?_
  rintro m ⟨y, M5⟩ ⟨k, t, hmk, hk1, rfl, g5, b1, b2, b3, hans⟩
  simp only at g5 b1 b2 b3 ⊢
  have h5 := h.sc (zsk.sc g5)
  have f5 := zsk.rws g5
  unfold b_X0_findBestGift_45
  cases m with
  | zero =>
    have k21 : k = 21 := by omega
    refine zT_if1 (by rw [k21]; decide) (zT_some (zT_some ?_))
    rw [← hans]
    exact ⟨b1, b2, b3, g5⟩
  | succ m =>
  unfold bestO at hans
  have ku : k * unit ≤ 20 * 999 := Nat.mul_le_mul (by omega) hu
  refine zT_if0 (by rw [nI_lit 20]; exact nI_nlt (by omega) (by omega)) (zT_bd (zT_eq (X6_shown h5.r13 h5.row ha) ?_))
  rw [f5, ee, pk_mul]
  by_cases ck : e < k * unit
  · rw [if_pos ck] at hans
    refine zT_if1 (nI_lt ck (by omega)) (zT_some (zT_some ?_))
    rw [← hans]
    exact ⟨b1, b2, b3, g5⟩
  rw [if_neg ck] at hans
  refine zT_if0 (nI_nlt (by omega) (by omega)) (zT_bd ?_)
  refine zT_for n (fun o z => z.1 = nI o ∧ zag zsk M z.2 ∧ z.2 194 1 = (bestI v unit a k t o).1 ∧ z.2 194 2 = (bestI v unit a k t o).2.1 ∧ z.2 194 3 = (bestI v unit a k t o).2.2) ⟨rfl, g5, b1, b2, b3⟩ (by omega) ?_ ?_
  · rintro o ⟨y, M6⟩ ho ⟨rfl, g6, d1, d2, d3⟩
    simp only at g6 d1 d2 d3 ⊢
    have h6 := h.sc (zsk.sc g6)
    unfold b_X0_findBestGift_68
    rw [show M6 13 4 = nI n from h6.rw0.2.1]
    have eI : bestI v unit a k t (o + 1) = if o = a then bestI v unit a k t o else if v k o ≤ (bestI v unit a k t o).2.2 then bestI v unit a k t o else (nI (k * unit), nI o, v k o) := rfl
    refine zT_if0 (nI_ge ho (by omega)) ?_
    by_cases oa : o = a
    · rw [if_pos oa] at eI
      refine zT_if1 (by rw [oa]) (zT_some ⟨nI_1 _, g6, ?_, ?_, ?_⟩)
      · rw [eI]; exact d1
      · rw [eI]; exact d2
      · rw [eI]; exact d3
    rw [if_neg oa] at eI
    refine zT_if0 (fun q => oa (nI_inj (by omega) (by omega) q)) ?_
    rw [t3, pk_mul]
    refine zT_bd (zT_w (h6.copyC t4 ht) ?_)
    rintro M7 ⟨w7, g7, f7⟩
    rw [zsk.rws g6] at w7
    refine zT_bd (zT_w (X6_move t4 w7 ha ho _) ?_)
    rintro M8 ⟨w8, g8⟩
    have g78 := g7.tr (zblk.st ht g8)
    have h8 := h6.sc (zst.sc g78)
    rw [h8.how]
    refine zT_bd (zT_w (h8.evesC t4 ht w8 (h.gd.move ha ho ee (by omega) (by omega) (by omega)) (by omega) (by omega) (by omega) h.ok.1) ?_)
    rintro M9 ⟨w9, g9, f9⟩
    have g79 := g78.tr g9
    refine zT_bd (zT_eq (X6_purseOf t4 w9 ha) (zT_bd ?_))
    have ev : evesF n (ruH ru) ru (moveF (rowF M) a o (nI (k * unit))) c a = v k o := by rw [hv]
    rw [ev]
    have q1 : M9 194 1 = M6 194 1 := g79 _ _ (by unfold zst; omega)
    have q2 : M9 194 2 = M6 194 2 := g79 _ _ (by unfold zst; omega)
    have q3 : M9 194 3 = M6 194 3 := g79 _ _ (by unfold zst; omega)
    have gk := g6.tr (zst.sk g79)
    unfold f_X0_better
    rw [q3, d3]
    refine zT_if (fun c1 => zT_lt (zT_lt (zT_lt (zT_some ?_)))) (fun c1 => zT_some ?_)
    · rw [if_neg (by rw [Int32.not_le]; exact c1)] at eI
      obtain ⟨s1, s2, s3, s4⟩ := sets M9 (nI (k * unit)) (nI o) (v k o) gk
      rw [eI]
      exact zT_some ⟨nI_1 _, s1, s2, s3, s4⟩
    · rw [if_pos (i_le_of c1)] at eI
      rw [eI]
      exact zT_some ⟨nI_1 _, gk, q1.trans d1, q2.trans d2, q3.trans d3⟩
  · rintro ⟨y, M6⟩ ⟨rfl, g6, d1, d2, d3⟩
    simp only at g6 d1 d2 d3 ⊢
    have h6 := h.sc (zsk.sc g6)
    unfold b_X0_findBestGift_68
    rw [show M6 13 4 = nI n from h6.rw0.2.1]
    exact zT_if1 (nI_le (Nat.le_refl _) (by omega)) (zT_some (zT_some ⟨m, by omega, k + 1, _, by omega, by omega, nI_1 _, g6, d1, d2, d3, hans⟩))
theorem zBest (h : zSt R M ru q l n T S u x) (hT : T + 3100000 < 2147483648) (hS : S + 400 < 2147483648) (x1 x2 x3 x4 : Int32) : zAns R M ru q l n T S u x (f_X11_best R M 2 x1 x2 x3 x4) (fun M1 => f_X12_best R M1 242 x1 x2 x3 x4) := by
  have hn := h.n10
  unfold zAns f_X11_best f_X11_isUnit
  rw [h.x2, h.q8, h.xr.2.2.2.2.2.1]
  rcases nI_cases x1 n (by omega) with ⟨a, ha, rfl⟩ | hx1
  rotate_left
  · unfold f_X12_best
    exact zT_bd (zT_eq (hz_no h.rw0 hx1) (zT_if1 rfl (zT_some ⟨zag.rf, zT_bd (zT_eq (zHn h.md hn h.n40 hx1) (zT_if1 rfl (zT_some ⟨rfl, zag.rf⟩)))⟩)))
  refine zT_bd (zT_eq (hz_yes h.rw0 ha) (zT_if0 (by decide) (zT_bd ?_)))
  -- the reference says no
  have no : (x2 < 1 ∨ 999 < x2) ∨ (x3 < 1 ∨ 30 < x3) ∨ (x4 < 0 ∨ 2 < x4) → zT (f_X12_best R M 242 (nI a) x2 x3 x4) (fun p1 => p1.1 = -1 ∧ zag zsr M p1.2) := fun hx => by
    unfold f_X12_best
    refine zT_bd (zT_eq (zHy h.md hn h.n40 ha) (zT_if0 (by decide) (zT_bd ?_)))
    by_cases c2 : x2 < 1 ∨ 999 < x2
    · exact zT_eq (in_n c2) (zT_if1 rfl (zT_some ⟨rfl, zag.rf⟩))
    refine zT_eq (in_y (fun q => c2 (Or.inl q)) (fun q => c2 (Or.inr q))) (zT_if0 (by decide) (zT_bd ?_))
    by_cases c3 : x3 < 1 ∨ 30 < x3
    · exact zT_eq (in_n c3) (zT_if1 rfl (zT_some ⟨rfl, zag.rf⟩))
    refine zT_eq (in_y (fun q => c3 (Or.inl q)) (fun q => c3 (Or.inr q))) (zT_if0 (by decide) (zT_bd ?_))
    exact zT_eq (in_n ((hx.resolve_left c2).resolve_left c3)) (zT_if1 rfl (zT_some ⟨rfl, zag.rf⟩))
  by_cases c2 : x2 < 1
  · rw [if_pos c2]
    exact zT_some (zT_if1 rfl (zT_some ⟨zag.rf, no (Or.inl (Or.inl c2))⟩))
  rw [if_neg c2]
  by_cases c2' : 999 < x2
  · rw [if_pos c2']
    exact zT_some (zT_if1 rfl (zT_some ⟨zag.rf, no (Or.inl (Or.inr c2'))⟩))
  rw [if_neg c2']
  refine zT_some (zT_if0 (by decide) ?_)
  by_cases c3 : x3 < 1
  · exact zT_if1 c3 (zT_some ⟨zag.rf, no (Or.inr (Or.inl (Or.inl c3)))⟩)
  refine zT_if0 c3 ?_
  by_cases c3' : x3 ≤ 30
  rotate_left
  · exact zT_if0 c3' (zT_some ⟨zag.rf, no (Or.inr (Or.inl (Or.inr (i_lt_of c3'))))⟩)
  refine zT_if1 c3' ?_
  by_cases c4 : x4 < 0
  · exact zT_if1 c4 (zT_some ⟨zag.rf, no (Or.inr (Or.inr (Or.inl c4)))⟩)
  refine zT_if0 c4 ?_
  by_cases c4' : x4 ≤ 2
  rotate_left
  · exact zT_if0 c4' (zT_some ⟨zag.rf, no (Or.inr (Or.inr (Or.inr (i_lt_of c4'))))⟩)
  obtain ⟨unit, hu, rfl⟩ := nI_upto (e := 999) (fun q => c2 (Int32.lt_trans q (by decide))) (i_le_of c2') (by omega)
  obtain ⟨c, hc, rfl⟩ := nI_upto (e := 30) (fun q => c3 (Int32.lt_trans q (by decide))) c3' (by omega)
  obtain ⟨e, he, ee⟩ := h.gd.sh ha
  obtain ⟨v, hv⟩ : ∃ v : Nat → Nat → Int32, v = fun k o => evesF n (ruH ru) ru (moveF (rowF M) a o (nI (k * unit))) c a := ⟨_, rfl⟩
  obtain ⟨ans, hA⟩ : ∃ ans, bestO v unit a n e 20 1 (0, -2, evesF n (ruH ru) ru (rowF M) c a) = ans := ⟨_, rfl⟩
  refine zT_if1 c4' (zT_bd (zT_w (X0_best h hT hS ha ee he hu hc hv hA) ?_))
  rintro M1 ⟨p1, p2, p3, g1⟩
  have h1 := h.sc (zsk.sc g1)
  have f1 := zsk.rws g1
  have rf : zT (f_X12_best R M1 242 (nI a) (nI unit) (nI c) x4) (fun p => p.1 = (if x4 = 0 then ans.1 else if x4 = 1 then ans.2.1 else ans.2.2) ∧ zag zsr M1 p.2) := by
    unfold f_X12_best
    have hz := zin_nI (k := a) (n := 60) (by omega) (by omega)
    refine zT_bd (zT_eq (zHy h.md hn h1.n40 ha) (zT_if0 (by decide) (zT_bd (zT_eq (in_y c2 c2') (zT_if0 (by decide) (zT_bd (zT_eq (in_y c3 (by rw [Int32.not_lt]; exact c3')) (zT_if0 (by decide) (zT_bd (zT_eq (in_y c4 (by rw [Int32.not_lt]; exact c4')) (zT_if0 (by decide) (zT_bd (zT_w h1.copyR ?_)))))))))))))
    rintro M2 ⟨e2, g2, f2⟩
    rw [f1] at e2 f2
    have h2 := h1.sc (zsr.sc g2)
    refine zT_bd (zT_eq (X12_shownOf h.md (by omega)) ?_)
    rw [e2, ee]
    refine zT_bd (zT_w (h2.evesR (by rw [e2]; exact h.gd) (by omega) (by omega) (by omega)) ?_)
    rintro M3 ⟨e3, g3⟩
    rw [e2] at e3
    have f3 : rowF M3 = rowF M := by rw [← f2]; exact zSt.rowR g3 e3 (fun j hj => by rw [f2]; exact evesF_fx h.gd (Or.inr hj) c (by omega) (by omega))
    refine zT_ck hz ?_
    rw [h.r46, ztn_nI (by omega), e3]
    refine zT_bd ?_
    refine zT_w (Q := fun z : Int32 × Int32 × Int32 × zM => z.1 = ans.1 ∧ z.2.1 = ans.2.1 ∧ z.2.2.1 = ans.2.2 ∧ zag zsr M1 z.2.2.2) (zT_loop (fun m z => ∃ (k : Nat) (t : Int32 × Int32 × Int32), m + k = 21 ∧ 1 ≤ k ∧ z.2.2.2.1 = nI k ∧ zag zsr M1 z.2.2.2.2 ∧ rowF z.2.2.2.2 = rowF M ∧ z.1 = t.1 ∧ z.2.1 = t.2.1 ∧ z.2.2.1 = t.2.2 ∧ bestO v unit a n e m k t = ans) 20 ⟨1, _, rfl, by omega, rfl, g2.tr g3, f3, rfl, rfl, rfl, hA⟩ (by omega) ?_) ?_
    · rintro m ⟨y1, y2, y3, y4, M5⟩ ⟨k, t, hmk, hk1, rfl, g5, f5, rfl, rfl, rfl, hans⟩
      simp only at g5 f5 ⊢
      unfold b_X12_best_75
      cases m with
      | zero =>
        have k21 : k = 21 := by omega
        refine zT_if1 (by rw [k21]; decide) (zT_some ?_)
        rw [← hans]
        exact ⟨rfl, rfl, rfl, g5⟩
      | succ m =>
      unfold bestO at hans
      have ku : k * unit ≤ 20 * 999 := Nat.mul_le_mul (by omega) hu
      rw [pk_mul]
      refine zT_if0 (by rw [nI_lit 20]; exact nI_nlt (by omega) (by omega)) ?_
      by_cases ck : e < k * unit
      · rw [if_pos ck] at hans
        refine zT_if1 (nI_lt ck (by omega)) (zT_some ?_)
        rw [← hans]
        exact ⟨rfl, rfl, rfl, g5⟩
      rw [if_neg ck] at hans
      refine zT_if0 (nI_nlt (by omega) (by omega)) (zT_bd ?_)
      refine zT_for n (fun o z => z.2.2.2.1 = nI o ∧ zag zsr M1 z.2.2.2.2 ∧ rowF z.2.2.2.2 = rowF M ∧ z.1 = (bestI v unit a k t o).1 ∧ z.2.1 = (bestI v unit a k t o).2.1 ∧ z.2.2.1 = (bestI v unit a k t o).2.2) ⟨rfl, g5, f5, rfl, rfl, rfl⟩ (by omega) ?_ ?_
      · rintro o ⟨y1, y2, y3, y4, M6⟩ ho ⟨rfl, g6, f6, rfl, rfl, rfl⟩
        simp only at g6 f6 ⊢
        have h6 := h1.sc (zsr.sc g6)
        unfold b_X12_best_94
        rw [h.r45, h.r46, show M6 270 (ztn (40 : Int32)) = nI n from h6.n40]
        have eI : bestI v unit a k t (o + 1) = if o = a then bestI v unit a k t o else if v k o ≤ (bestI v unit a k t o).2.2 then bestI v unit a k t o else (nI (k * unit), nI o, v k o) := rfl
        refine zT_if0 (nI_ge ho (by omega)) ?_
        by_cases oa : o = a
        · rw [if_pos oa] at eI
          refine zT_if1 (by rw [oa]) (zT_some ?_)
          rw [eI]
          exact ⟨nI_1 _, g6, f6, rfl, rfl, rfl⟩
        rw [if_neg oa] at eI
        have hz2 := zin_nI (k := o) (n := 60) (by omega) (by omega)
        rw [pk_mul]
        refine zT_if0 (fun q => oa (nI_inj (by omega) (by omega) q)) (zT_bd (zT_w h6.copyR ?_))
        rintro M7 ⟨e7, g7, f7⟩
        rw [f6] at e7 f7
        refine zT_ck hz (zT_ck hz (zT_lt (zT_ck hz2 (zT_ck hz2 (zT_lt (zT_bd ?_))))))
        rw [ztn_nI (by omega), ztn_nI (by omega)]
        have e8 : zup (zup M7 271 a (M7 271 a - nI (k * unit))) 271 o (zup M7 271 a (M7 271 a - nI (k * unit)) 271 o + nI (k * unit)) 271 = moveF (rowF M) a o (nI (k * unit)) := by
          rw [zup_upd, zup_upd, e7]
          rfl
        have g8 : zag zsr M7 (zup (zup M7 271 a (M7 271 a - nI (k * unit))) 271 o (zup M7 271 a (M7 271 a - nI (k * unit)) 271 o + nI (k * unit))) := (zag.rf.up (by unfold zsr; omega)).up (by unfold zsr; omega)
        generalize zup (zup M7 271 a (M7 271 a - nI (k * unit))) 271 o (zup M7 271 a (M7 271 a - nI (k * unit)) 271 o + nI (k * unit)) = M8 at e8 g8 ⊢
        have g68 := (g6.tr g7).tr g8
        have h8 := h1.sc (zsr.sc g68)
        have gm := h.gd.move ha ho ee (d := k * unit) (by omega) (by omega) (by omega)
        refine zT_w (h8.evesR (by rw [e8]; exact gm) (by omega) (by omega) (by omega)) ?_
        rintro M9 ⟨e9, g9⟩
        rw [e8] at e9
        have ev : M9 271 a = v k o := by rw [e9, hv]
        have mhi : ∀ j, 60 ≤ j → moveF (rowF M) a o (nI (k * unit)) j = rowF M j := fun j hj => by unfold moveF; rw [upd_n (by omega), upd_n (by omega)]
        have f9 : rowF M9 = rowF M := by
          rw [← f7]
          refine zSt.rowR (g8.tr g9) e9 (fun j hj => ?_)
          rw [f7, evesF_fx gm (Or.inr hj) c (by omega) (by omega)]
          exact mhi j hj
        rw [ev]
        refine zT_ck hz (zT_if (fun c1 => zT_ck hz (zT_some ?_)) (fun c1 => zT_some ?_))
        · rw [if_neg (by rw [Int32.not_le]; exact c1)] at eI
          rw [eI]
          exact ⟨nI_1 _, g68.tr g9, f9, rfl, rfl, rfl⟩
        · rw [if_pos (i_le_of c1)] at eI
          rw [eI]
          exact ⟨nI_1 _, g68.tr g9, f9, rfl, rfl, rfl⟩
      · rintro ⟨y1, y2, y3, y4, M6⟩ ⟨rfl, g6, f6, d1, d2, d3⟩
        simp only at g6 f6 d1 d2 d3 ⊢
        have h6 := h1.sc (zsr.sc g6)
        unfold b_X12_best_94
        rw [h.r45, show M6 270 (ztn (40 : Int32)) = nI n from h6.n40]
        exact zT_if1 (nI_le (Nat.le_refl _) (by omega)) (zT_some (zT_some ⟨m, by omega, k + 1, _, by omega, by omega, nI_1 _, g6, f6, d1, d2, d3, hans⟩))
    · rintro ⟨y1, y2, y3, M5⟩ ⟨rfl, rfl, rfl, g5⟩
      simp only at g5 ⊢
      refine zT_if (fun d => zT_some ⟨?_, g5⟩) (fun d => zT_if (fun d2 => zT_some ⟨?_, g5⟩) (fun d2 => zT_some ⟨?_, g5⟩))
      · rw [if_pos d]
      · rw [if_neg d, if_pos d2]
      · rw [if_neg d, if_neg d2]
  rw [p1, p2, p3]
  refine zT_if (fun d => zT_some ⟨g1, ?_⟩) (fun d => zT_if (fun d2 => zT_some ⟨g1, ?_⟩) (fun d2 => zT_some ⟨g1, ?_⟩))
  · rw [if_pos d] at rf
    exact rf
  · rw [if_neg d, if_pos d2] at rf
    exact rf
  · rw [if_neg d, if_neg d2] at rf
    exact rf
end TRY

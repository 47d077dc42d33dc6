/-! THE CALLS THAT CHANGE: run, give, hide, grab -/
theorem in_y {x a b : Int32} (h1 : ¬ x < a) (h2 : ¬ b < x) : f_X12_in x a b = some 1 := by
  unfold f_X12_in
  rw [if_neg h1, if_neg h2]
theorem in_n {x a b : Int32} (h : x < a ∨ b < x) : f_X12_in x a b = some 0 := by
  unfold f_X12_in
  by_cases h1 : x < a
  · rw [if_pos h1]
  · rw [if_neg h1, if_pos (h.resolve_left h1)]
theorem zHy {R : zR} {M : zM} (hR : zMd R) {n : Nat} (hn : n ≤ 10) (hw : M 270 40 = nI n) {k : Nat} (hk : k < n) : f_X12_isHouse R M 242 (nI k) = some 1 := by
  obtain ⟨b, hb, e, h1, h2⟩ := X12_isHouse hR hn hw (nI k)
  rcases hb with rfl | rfl
  · rcases h2 rfl with q | q
    · exact absurd q (nI_pos (by omega))
    · exact absurd q (nI_ge hk (by omega))
  · exact e
theorem zHn {R : zR} {M : zM} (hR : zMd R) {n : Nat} (hn : n ≤ 10) (hw : M 270 40 = nI n) {x : Int32} (hx : x < 0 ∨ nI n ≤ x) : f_X12_isHouse R M 242 x = some 0 := by
  obtain ⟨b, hb, e, h1, h2⟩ := X12_isHouse hR hn hw x
  rcases hb with rfl | rfl
  · exact e
  · obtain ⟨k, hk, rfl⟩ := h1 (by decide)
    rcases hx with q | q
    · exact absurd q (nI_pos (by omega))
    · exact absurd q (nI_ge hk (by omega))
/-- an int that is no less than 0 and no more than e -/
theorem nI_upto {x : Int32} {e : Nat} (h0 : ¬ x < 0) (h : x ≤ nI e) (he : e < 2147483648) : ∃ d, d ≤ e ∧ x = nI d := by
  obtain ⟨j, hj, rfl⟩ := nI_of h0
  refine ⟨j, ?_, rfl⟩
  rcases Nat.lt_or_ge e j with q | q
  · exact absurd h (nI_ge q hj)
  · exact q
theorem zup_upd {M : zM} {a k : Nat} {v : Int32} : zup M a k v a = upd (M a) k v := by
  funext j
  by_cases e : j = k
  · subst e; rw [upd_s, zup_same]
  · rw [upd_n e, zup_k e]
section OPS
variable {R : zR} {M : zM} {ru : zRu} {q l n T S u x : Nat}
theorem zRun (h : zSt R M ru q l n T S u x) (hT : T + 3100000 < 2147483648) (hS : S + 400 < 2147483648) (x1 : Int32) : zT (f_X11_run R M 2 x1) (fun p => zT (f_X12_run R p.2 242 x1) (fun p1 => p1.1 = p.1 ∧ zOut R p1.2 (T + 3000000) (S + 300))) := by
  have o0 : zOut R M (T + 3000000) (S + 300) := h.out (by omega) (by omega)
  unfold f_X11_run f_X12_run f_X11_isEvenings
  rw [h.x2, h.x3, h.q8, h.r45]
  have no : x1 < 0 ∨ 300 < x1 → zT (some ((-1 : Int32), M)) (fun p => zT (zbd (f_X12_in x1 (0 : Int32) (300 : Int32)) fun r1 => if r1 = 0 then some ((-1 : Int32), p.2) else if x1 = 0 then some ((p.2 270 (ztn (42 : Int32))), p.2) else zbd (f_X12_copies R p.2 242) fun M5 => zbd (f_X12_evenings R M5 242 x1) fun M7 => zbd (f_X12_keeps R M7 242) fun M9 => some ((M9 270 (ztn (42 : Int32))), M9)) (fun p1 => p1.1 = p.1 ∧ zOut R p1.2 (T + 3000000) (S + 300))) := fun hx => zT_some (zT_bd (zT_eq (in_n hx) (zT_if1 rfl (zT_some ⟨rfl, o0⟩))))
  refine zT_bd ?_
  by_cases h0 : x1 < 0
  · rw [if_pos h0]
    exact zT_some (zT_if1 rfl (no (Or.inl h0)))
  rw [if_neg h0]
  by_cases h1 : 300 < x1
  · rw [if_pos h1]
    exact zT_some (zT_if1 rfl (no (Or.inr h1)))
  rw [if_neg h1]
  obtain ⟨c, hc, rfl⟩ := nI_upto (e := 300) h0 (i_le_of h1) (by omega)
  refine zT_some (zT_if0 (by decide) ?_)
  by_cases hc0 : c = 0
  · subst hc0
    refine zT_if1 (by decide) ?_
    unfold j_X11_run_43
    rw [h.x2]
    refine zT_some (zT_bd (zT_eq (in_y (by decide) (by decide)) (zT_if0 (by decide) (zT_if1 rfl (zT_some ⟨?_, o0⟩)))))
    exact h.rw0.2.2.2.2.1.symm
  refine zT_if0 (nI_nle (by omega) (by omega)) (zT_bd (zT_w h.note ?_))
  rintro M1 ⟨nt, w1, c1⟩
  have hq := h.qq
  have e8 : M1 q 8 = ruH ru := c1.2.2.2.2.2.2.1
  rw [e8]
  refine zT_bd (zT_w (X7_evenings c1 h.ok h.r13 w1 (by omega) h.gd (by omega) (by omega) (by omega) h.ok.1) ?_)
  rintro M2 ⟨w2, g2⟩
  unfold j_X11_run_43
  rw [h.x2]
  have g2c : zag cgA M1 M2 := g2.mo (fun b k e => by unfold clA at e; unfold cgA zsk; omega)
  obtain ⟨m0, m1, mr, ms, ml⟩ := h.mid nt g2c
  refine zT_some (zT_bd (zT_eq (in_y (nI_pos (by omega)) (by rw [nI_lit 300]; exact nI_nlt (by omega) (by omega))) (zT_if0 (by decide) (zT_if0 (nI_ne0 (by omega) (by omega)) ?_))))
  refine zT_bd (zT_w (X12_copies h.md) ?_)
  rintro M3 ⟨e3, g3⟩
  have e3b : M3 271 = rowF M := e3.trans mr
  refine zT_bd (zT_w (X12_evenings h.md (ms.eq (fun a k q1 q2 => g3 a k (by omega))) h.ok (by rw [g3 242 18 (by omega)]; exact ml) (by rw [e3b]; exact h.gd) (by omega) (by omega) (by omega)) ?_)
  rintro M4 ⟨e4, g4⟩
  rw [e3b] at e4
  have hc2 : 9990 * c ≤ 2997000 := by omega
  refine zT_bd (zT_w (h.did (T1 := T + 3000000) (S1 := S + 300) (by omega) (by omega) nt w2 g2c ((z271.sr g3).tr (mrA.sr g4)) (by rw [e4]; exact eq60.rf) ((h.gd.eves c (by omega) (by omega)).mo (by omega) (by omega))) ?_)
  rintro M5 ⟨e5, o5⟩
  refine zT_some ⟨?_, o5⟩
  show M5 270 42 = M2 13 6
  rw [e5 42 (by omega), w2.2.2.2.2.1]
theorem zGive (h : zSt R M ru q l n T S u x) (hT : T + 3100000 < 2147483648) (hS : S + 400 < 2147483648) (x1 x2 x3 : Int32) : zT (f_X11_give R M 2 x1 x2 x3) (fun p => zT (f_X12_give R p.2 242 x1 x2 x3) (fun p1 => p1.1 = p.1 ∧ zOut R p1.2 (T + 3000000) (S + 300))) := by
  have o0 : zOut R M (T + 3000000) (S + 300) := h.out (by omega) (by omega)
  have hn := h.n10
  unfold f_X11_give f_X12_give
  rw [h.x2, h.x3, h.r46]
  rcases nI_cases x1 n (by omega) with ⟨a, ha, rfl⟩ | hx1
  rotate_left
  · exact zT_bd (zT_eq (hz_no h.rw0 hx1) (zT_if1 rfl (zT_some (zT_bd (zT_eq (zHn h.md hn h.n40 hx1) (zT_if1 rfl (zT_some ⟨rfl, o0⟩)))))))
  refine zT_bd (zT_eq (hz_yes h.rw0 ha) (zT_if0 (by decide) ?_))
  rcases nI_cases x2 n (by omega) with ⟨b, hb, rfl⟩ | hx2
  rotate_left
  · exact zT_bd (zT_eq (hz_no h.rw0 hx2) (zT_if1 rfl (zT_some (zT_bd (zT_eq (zHy h.md hn h.n40 ha) (zT_if0 (by decide) (zT_bd (zT_eq (zHn h.md hn h.n40 hx2) (zT_if1 rfl (zT_some ⟨rfl, o0⟩))))))))))
  refine zT_bd (zT_eq (hz_yes h.rw0 hb) (zT_if0 (by decide) ?_))
  by_cases hab : nI a = nI b
  · exact zT_if1 hab (zT_some (zT_bd (zT_eq (zHy h.md hn h.n40 ha) (zT_if0 (by decide) (zT_bd (zT_eq (zHy h.md hn h.n40 hb) (zT_if0 (by decide) (zT_if1 hab (zT_some ⟨rfl, o0⟩)))))))))
  refine zT_if0 hab ?_
  by_cases h0 : x3 < 0
  · exact zT_if1 h0 (zT_some (zT_bd (zT_eq (zHy h.md hn h.n40 ha) (zT_if0 (by decide) (zT_bd (zT_eq (zHy h.md hn h.n40 hb) (zT_if0 (by decide) (zT_if0 hab (zT_if0 (by rw [Int32.not_le]; exact h0) (zT_some ⟨rfl, o0⟩))))))))))
  refine zT_if0 h0 (zT_bd (zT_eq (X6_shown h.r13 h.row ha) ?_))
  obtain ⟨e, he, ee⟩ := h.gd.sh ha
  by_cases hle : x3 ≤ shF (rowF M) a
  rotate_left
  · refine zT_if0 hle (zT_some (zT_bd (zT_eq (zHy h.md hn h.n40 ha) (zT_if0 (by decide) (zT_bd (zT_eq (zHy h.md hn h.n40 hb) (zT_if0 (by decide) (zT_if0 hab (zT_if1 (i_le_of h0) (zT_bd (zT_w (X12_copies h.md) ?_)))))))))))
    rintro M3 ⟨e3, g3⟩
    refine zT_bd (zT_eq (X12_shownOf h.md (by omega)) ?_)
    rw [e3]
    exact zT_if0 hle (zT_some ⟨rfl, (h.sc (zsr.sc (z271.sr g3))).out (by omega) (by omega)⟩)
  obtain ⟨d, hd, rfl⟩ := nI_upto (e := e) h0 (by rw [← ee]; exact hle) (by omega)
  refine zT_if1 hle (zT_bd (zT_w h.note ?_))
  rintro M1 ⟨nt, w1, c1⟩
  refine zT_bd (zT_w (X6_move h.r13 w1 ha hb _) ?_)
  rintro M2 ⟨w2, g2⟩
  have g2c : zag cgA M1 M2 := g2.mo (fun b k e => by unfold zblk at e; unfold cgA; omega)
  obtain ⟨m0, m1, mr, ms, ml⟩ := h.mid nt g2c
  have h40 : M2 270 40 = nI n := by rw [m0]; exact h.n40
  refine zT_some (zT_bd (zT_eq (zHy h.md hn h40 ha) (zT_if0 (by decide) (zT_bd (zT_eq (zHy h.md hn h40 hb) (zT_if0 (by decide) (zT_if0 hab (zT_if1 (nI_pos' (by omega)) (zT_bd (zT_w (X12_copies h.md) ?_))))))))))
  rintro M3 ⟨e3, g3⟩
  have e3b : M3 271 = rowF M := e3.trans mr
  refine zT_bd (zT_eq (X12_shownOf h.md (by omega)) ?_)
  rw [e3b]
  refine zT_if1 hle (zT_ck (zin_nI (by omega) (by omega)) (zT_ck (zin_nI (by omega) (by omega)) (zT_lt (zT_ck (zin_nI (by omega) (by omega)) (zT_ck (zin_nI (by omega) (by omega)) (zT_lt (zT_bd ?_)))))))
  rw [ztn_nI (by omega), ztn_nI (by omega)]
  have e4 : zup (zup M3 271 a (rowF M a - nI d)) 271 b (zup M3 271 a (rowF M a - nI d) 271 b + nI d) 271 = moveF (rowF M) a b (nI d) := by
    rw [zup_upd, zup_upd, e3b]
    rfl
  refine zT_w (h.did (T1 := T + 3000000) (S1 := S + 300) (by omega) (by omega) nt w2 g2c (z271.sr (z271.up (z271.up g3))) (by rw [e4]; exact eq60.rf) ((h.gd.move ha hb ee (by omega) (by omega) hd).mo (by omega) (by omega))) ?_
  rintro M5 ⟨e5, o5⟩
  exact zT_some ⟨rfl, o5⟩
theorem zHide (h : zSt R M ru q l n T S u x) (hT : T + 3100000 < 2147483648) (hS : S + 400 < 2147483648) (x1 x2 : Int32) : zT (f_X11_hide R M 2 x1 x2) (fun p => zT (f_X12_hide R p.2 242 x1 x2) (fun p1 => p1.1 = p.1 ∧ zOut R p1.2 (T + 3000000) (S + 300))) := by
  have o0 : zOut R M (T + 3000000) (S + 300) := h.out (by omega) (by omega)
  have hn := h.n10
  unfold f_X11_hide f_X12_hide
  rw [h.x2, h.x3, h.r45, h.r46, h.r13.1, h.r13.2.1]
  rcases nI_cases x1 n (by omega) with ⟨a, ha, rfl⟩ | hx1
  rotate_left
  · exact zT_bd (zT_eq (hz_no h.rw0 hx1) (zT_if1 rfl (zT_some (zT_bd (zT_eq (zHn h.md hn h.n40 hx1) (zT_if1 rfl (zT_some ⟨rfl, o0⟩)))))))
  refine zT_bd (zT_eq (hz_yes h.rw0 ha) (zT_if0 (by decide) ?_))
  have ra : M 14 a = M 270 a := (h.rw0.2.2.2.2.2.2 a ha).1
  obtain ⟨_, _, _, p, qq, pot, hp, _, hsum⟩ := h.gd0
  obtain ⟨pa, -, -⟩ := hp a ha
  have hpl := sumN_le (p := p) n a ha
  rw [ztn_nI (by omega)]
  by_cases h0 : x2 < 0
  · exact zT_if1 h0 (zT_some (zT_bd (zT_eq (zHy h.md hn h.n40 ha) (zT_if0 (by decide) (zT_ck (zin_nI (by omega) (by omega)) (zT_bd (zT_eq (in_n (Or.inl h0)) (zT_if1 rfl (zT_some ⟨rfl, o0⟩)))))))))
  refine zT_if0 h0 (zT_ck (zin_nI (by omega) (by omega)) ?_)
  by_cases hle : x2 ≤ M 14 a
  rotate_left
  · exact zT_if0 hle (zT_some (zT_bd (zT_eq (zHy h.md hn h.n40 ha) (zT_if0 (by decide) (zT_ck (zin_nI (by omega) (by omega)) (zT_bd (zT_eq (in_n (Or.inr (by show M 270 a < x2; rw [← ra]; exact i_lt_of hle))) (zT_if1 rfl (zT_some ⟨rfl, o0⟩)))))))))
  obtain ⟨d, hd, rfl⟩ := nI_upto (e := p a) h0 (by rw [← pa, ← ra]; exact hle) (by omega)
  refine zT_if1 hle (zT_bd (zT_w h.note ?_))
  rintro M1 ⟨nt, w1, c1⟩
  refine zT_ck (zin_nI (by omega) (by omega)) (zT_lt (zT_some ?_))
  have g2c : zag cgA M1 (zup M1 15 a (nI d)) := zag.rf.up (Or.inl ⟨by omega, by omega⟩)
  have w2 : RW (zup M1 15 a (nI d)) 13 n (upd (rowF M) (10 + a) (nI d)) := by
    obtain ⟨q1, q2, q3, q4, q5, q6, q7⟩ := w1
    refine ⟨q1, ?_, ?_, ?_, ?_, ?_, fun j hj => ?_⟩
    · rw [zup_a (by omega)]; exact q2
    · rw [upd_n (by omega)]; exact q3
    · rw [zup_a (by omega), upd_n (by omega)]; exact q4
    · rw [zup_a (by omega), upd_n (by omega)]; exact q5
    · rw [zup_a (by omega), upd_n (by omega)]; exact q6
    · obtain ⟨f1, f2, f3, f4⟩ := q7 j hj
      rw [zup_a (by omega), zup_a (a := 15) (b := 13 + 3) (by omega), zup_a (a := 15) (b := 13 + 4) (by omega), upd_n (by omega), upd_n (j := 20 + j) (by omega), upd_n (j := 30 + j) (by omega)]
      refine ⟨f1, ?_, f3, f4⟩
      by_cases e : j = a
      · subst e
        rw [upd_s]
        exact zup_same (M := M1) (a := 15)
      · rw [upd_n (by omega)]
        exact (zup_k (M := M1) (a := 15) e).trans f2
  generalize zup M1 15 a (nI d) = M2 at g2c w2 ⊢
  obtain ⟨m0, m1, mr, ms, ml⟩ := h.mid nt g2c
  have h40 : M2 270 40 = nI n := by rw [m0]; exact h.n40
  refine zT_bd (zT_eq (zHy h.md hn h40 ha) (zT_if0 (by decide) (zT_ck (zin_nI (by omega) (by omega)) (zT_bd (zT_eq (in_y (nI_pos (by omega)) ?_) (zT_if0 (by decide) (zT_bd (zT_w (X12_copies h.md) ?_))))))))
  · show ¬ M2 270 a < nI d
    rw [m0, pa]
    exact nI_nlt hd (by omega)
  rintro M3 ⟨e3, g3⟩
  have e3b : M3 271 = rowF M := e3.trans mr
  rw [nI_lit 10, nI_add]
  refine zT_ck (zin_nI (by omega) (by omega)) (zT_lt (zT_bd ?_))
  rw [ztn_nI (by omega)]
  have e4 : zup M3 271 (10 + a) (nI d) 271 = upd (rowF M) (10 + a) (nI d) := by rw [zup_upd, e3b]
  have pa2 : rowF M a = nI (p a) := (rowF60 M a (by omega)).trans pa
  refine zT_w (h.did (T1 := T + 3000000) (S1 := S + 300) (by omega) (by omega) nt w2 g2c (z271.sr (z271.up g3)) (by rw [e4]; exact eq60.rf) ((h.gd.hide ha pa2 hd (by omega) (by omega)).mo (by omega) (by omega))) ?_
  rintro M5 ⟨e5, o5⟩
  exact zT_some ⟨rfl, o5⟩
theorem zGrab (h : zSt R M ru q l n T S u x) (hT : T + 3100000 < 2147483648) (hS : S + 400 < 2147483648) (x1 : Int32) : zT (f_X11_grab R M 2 x1) (fun p => zT (f_X12_grab R p.2 242 x1) (fun p1 => p1.1 = p.1 ∧ zOut R p1.2 (T + 3000000) (S + 300))) := by
  have o0 : zOut R M (T + 3000000) (S + 300) := h.out (by omega) (by omega)
  have hn := h.n10
  unfold f_X11_grab f_X12_grab
  rw [h.x2, h.x3, h.r46, h.r13.1]
  rcases nI_cases x1 n (by omega) with ⟨a, ha, rfl⟩ | hx1
  rotate_left
  · exact zT_bd (zT_eq (hz_no h.rw0 hx1) (zT_if1 rfl (zT_some (zT_bd (zT_eq (zHn h.md hn h.n40 hx1) (zT_if1 rfl (zT_some ⟨rfl, o0⟩)))))))
  refine zT_bd (zT_eq (hz_yes h.rw0 ha) (zT_if0 (by decide) (zT_bd (zT_w h.note ?_))))
  rintro M1 ⟨nt, w1, c1⟩
  refine zT_ck (zin_nI (by omega) (by omega)) (zT_ck (zin_nI (by omega) (by omega)) (zT_lt (zT_lt (zT_some ?_))))
  rw [ztn_nI (by omega)]
  have f5 : M1 13 5 = rowF M 41 := w1.2.2.2.1
  have fa : M1 (13 + 1) a = rowF M a := (w1.2.2.2.2.2.2 a ha).1
  rw [f5, fa]
  have g2c : zag cgA M1 (zup (zup M1 (13 + 1) a (rowF M a + rowF M 41)) 13 5 0) := (zag.rf.up (Or.inl ⟨by omega, by omega⟩)).up (Or.inl ⟨by omega, by omega⟩)
  have w2 : RW (zup (zup M1 (13 + 1) a (rowF M a + rowF M 41)) 13 5 0) 13 n (upd (upd (rowF M) a (rowF M a + rowF M 41)) 41 0) := by
    refine RW.pot ?_ 0
    obtain ⟨q1, q2, q3, q4, q5, q6, q7⟩ := w1
    refine ⟨q1, ?_, ?_, ?_, ?_, ?_, fun j hj => ?_⟩
    · rw [zup_a (by omega)]; exact q2
    · rw [upd_n (by omega)]; exact q3
    · rw [zup_a (by omega), upd_n (by omega)]; exact q4
    · rw [zup_a (by omega), upd_n (by omega)]; exact q5
    · rw [zup_a (by omega), upd_n (by omega)]; exact q6
    · obtain ⟨f1, f2, f3, f4⟩ := q7 j hj
      rw [zup_a (b := 13 + 2) (by omega), zup_a (b := 13 + 3) (by omega), zup_a (b := 13 + 4) (by omega), upd_n (j := 10 + j) (by omega), upd_n (j := 20 + j) (by omega), upd_n (j := 30 + j) (by omega)]
      refine ⟨?_, f2, f3, f4⟩
      by_cases e : j = a
      · subst e
        rw [upd_s]
        exact zup_same
      · rw [upd_n e]
        exact (zup_k e).trans f1
  generalize zup (zup M1 (13 + 1) a (rowF M a + rowF M 41)) 13 5 0 = M2 at g2c w2 ⊢
  obtain ⟨m0, m1, mr, ms, ml⟩ := h.mid nt g2c
  have h40 : M2 270 40 = nI n := by rw [m0]; exact h.n40
  refine zT_bd (zT_eq (zHy h.md hn h40 ha) (zT_if0 (by decide) (zT_bd (zT_w (X12_copies h.md) ?_))))
  rintro M3 ⟨e3, g3⟩
  have e3b : M3 271 = rowF M := e3.trans mr
  refine zT_ck (zin_nI (by omega) (by omega)) (zT_ck (zin_nI (by omega) (by omega)) (zT_lt (zT_lt (zT_bd ?_))))
  rw [show ztn (41 : Int32) = 41 from rfl, e3b]
  have e4 : zup (zup M3 271 a (rowF M a + rowF M 41)) 271 41 0 271 = upd (upd (rowF M) a (rowF M a + rowF M 41)) 41 0 := by rw [zup_upd, zup_upd, e3b]
  refine zT_w (h.did (T1 := T + 3000000) (S1 := S + 300) (by omega) (by omega) nt w2 g2c (z271.sr (z271.up (z271.up g3))) (by rw [e4]; exact eq60.rf) ((h.gd.grab ha).mo (by omega) (by omega))) ?_
  rintro M5 ⟨e5, o5⟩
  exact zT_some ⟨rfl, o5⟩
end OPS

/-! WEALTH, LOAN -/
theorem zGd.take {n T S : Nat} {w : Nat → Int32} (h : zGd n T S w) {k d e : Nat} (hk : k < n) (hs : shF w k = nI e) (he : e < 2147483648) (hT : T < 2147483648) (hd : d ≤ e) : zGd n T S (upd w k (w k - nI d)) := by
  obtain ⟨h0, h1, ⟨s, hs2, es⟩, p, q, pot, h3, h4, h5⟩ := h
  obtain ⟨a, b, c⟩ := h3 k hk
  have hle := sumN_le (p := p) n k hk
  have e1 : e = p k - q k := by
    have : nI e = nI (p k - q k) := by rw [← hs]; unfold shF; rw [a, b, nI_sub c]
    exact nI_inj he (by omega) this
  have s1 := sumN_upd (p := p) (v := p k - d) n k hk
  refine ⟨h0, by rw [upd_n (by omega)]; exact h1, ⟨s, hs2, by rw [upd_n (by omega)]; exact es⟩, updN p k (p k - d), q, pot, ?_, by rw [upd_n (by omega)]; exact h4, by omega⟩
  intro j hj
  obtain ⟨a2, b2, c2⟩ := h3 j hj
  rw [upd_n (j := 10 + j) (by omega)]
  unfold updN
  by_cases e : j = k
  · subst e
    rw [if_pos rfl, upd_s, a, nI_sub (by omega)]
    exact ⟨rfl, b, by omega⟩
  · rw [if_neg e, upd_n e]
    exact ⟨a2, b2, c2⟩
section TRY
variable {R : zR} {M : zM} {ru : zRu} {q l n T S u x : Nat}
theorem zSt.paidR (h : zSt R M ru q l n T S u x) {T1 S1 b : Nat} (hg : zGd n T1 S1 (M 271)) (hT : T1 + 9990 < 2147483648) (hS : S1 < 2147483648) (hb : b < n) : zT (f_X12_paidBy R M 242 (nI b)) (fun p => p.1 = eveF n (ruH ru) ru (M 271) (20 + b) ∧ p.2 271 = eveF n (ruH ru) ru (M 271) ∧ zag zsr M p.2) := by
  have hn := h.n10
  have hl := h.ll
  unfold f_X12_paidBy
  rw [h.l18, h.md.at (k := 26) (b := 255) rfl (by decide), h.r46, ztn_nI (by omega), h.howR, nI_lit 20, nI_add]
  refine zT_ck (zin_nI hl (by omega)) (zT_bd (zT_w (h.eveR hg hT hS h.ok.1) ?_))
  rintro M1 ⟨e1, g1⟩
  refine zT_ck (zin_nI (by omega) (by omega)) (zT_some ⟨?_, e1, g1⟩)
  rw [ztn_nI (by omega), e1]
theorem zWealth (h : zSt R M ru q l n T S u x) (hT : T + 3100000 < 2147483648) (hS : S + 400 < 2147483648) (x1 x2 x3 : Int32) : zAns R M ru q l n T S u x (f_X11_wealth R M 2 x1 x2 x3) (fun M1 => f_X12_wealth R M1 242 x1 x2 x3) := by
  have hn := h.n10
  obtain ⟨t0, t1, t2, t3, t4, -⟩ := h.rt
  have ht : zTr 195 := by unfold zTr; omega
  unfold zAns f_X11_wealth f_X12_wealth
  rw [h.x2, h.q8, h.xr.2.2.2.2.2.1, h.r46]
  rcases nI_cases x1 n (by omega) with ⟨a, ha, rfl⟩ | hx1
  rotate_left
  · exact zT_bd (zT_eq (hz_no h.rw0 hx1) (zT_if1 rfl (zT_some ⟨zag.rf, zT_bd (zT_eq (zHn h.md hn h.n40 hx1) (zT_if1 rfl (zT_some ⟨rfl, zag.rf⟩)))⟩)))
  refine zT_bd (zT_eq (hz_yes h.rw0 ha) (zT_if0 (by decide) ?_))
  rcases nI_cases x2 n (by omega) with ⟨b, hb, rfl⟩ | hx2
  rotate_left
  · exact zT_bd (zT_eq (hz_no h.rw0 hx2) (zT_if1 rfl (zT_some ⟨zag.rf, zT_bd (zT_eq (zHy h.md hn h.n40 ha) (zT_if0 (by decide) (zT_bd (zT_eq (zHn h.md hn h.n40 hx2) (zT_if1 rfl (zT_some ⟨rfl, zag.rf⟩))))))⟩)))
  refine zT_bd (zT_eq (hz_yes h.rw0 hb) (zT_if0 (by decide) ?_))
  obtain ⟨e, he, ee⟩ := h.gd.sh ha
  -- no such x
  have no : x3 < 0 ∨ shF (rowF M) a < x3 → zT (zbd (f_X12_isHouse R M 242 (nI a)) fun r1 => if r1 = 0 then some ((-1000000 : Int32), M) else zbd (f_X12_isHouse R M 242 (nI b)) fun r4 => if r4 = 0 then some ((-1000000 : Int32), M) else zbd (f_X12_copies R M 242) fun M7 => zbd (f_X12_shownOf R M7 242 (nI a)) fun r9 => zbd (f_X12_in x3 (0 : Int32) r9) fun r11 => if r11 = 0 then some ((-1000000 : Int32), M7) else zbd2 (f_X12_paidBy R M7 242 (nI b)) fun r14 M15 => zbd (f_X12_copies R M15 242) fun M17 => zck (zin (nI a) 60) <| zck (zin (nI a) 60) <| zlt (zup M17 271 (ztn (nI a)) ((M17 271 (ztn (nI a))) - x3)) fun M21 => zbd2 (f_X12_paidBy R M21 242 (nI b)) fun r22 M23 => some ((r14 - r22), M23)) (fun p1 => p1.1 = -1000000 ∧ zag zsr M p1.2) := fun hx => by
    refine zT_bd (zT_eq (zHy h.md hn h.n40 ha) (zT_if0 (by decide) (zT_bd (zT_eq (zHy h.md hn h.n40 hb) (zT_if0 (by decide) (zT_bd (zT_w h.copyR ?_)))))))
    rintro M3 ⟨e3, g3, f3⟩
    refine zT_bd (zT_eq (X12_shownOf h.md (by omega)) (zT_bd ?_))
    rw [e3]
    exact zT_eq (in_n hx) (zT_if1 rfl (zT_some ⟨rfl, g3⟩))
  by_cases h0 : x3 < 0
  · exact zT_if1 h0 (zT_some ⟨zag.rf, no (Or.inl h0)⟩)
  refine zT_if0 h0 (zT_bd (zT_eq (X6_shown h.r13 h.row ha) ?_))
  by_cases hle : x3 ≤ shF (rowF M) a
  rotate_left
  · exact zT_if0 hle (zT_some ⟨zag.rf, no (Or.inr (i_lt_of hle))⟩)
  obtain ⟨d, hd, rfl⟩ := nI_upto (e := e) h0 (by rw [← ee]; exact hle) (by omega)
  refine zT_if1 hle (zT_bd2 ?_)
  unfold f_X0_lessPaid
  rw [t3]
  refine zT_bd (zT_w (h.copyC t4 ht) ?_)
  rintro M1 ⟨w1, g1, f1⟩
  have h1 := h.sc (zst.sc g1)
  rw [h1.how]
  refine zT_bd (zT_w (h1.eveC t4 ht w1 h.gd (by omega) h.ok.1) ?_)
  rintro M2 ⟨w2, g2, f2⟩
  have h2 := h1.sc (zst.sc g2)
  refine zT_bd (zT_eq (X6_paidBy t4 w2 hb) (zT_bd (zT_w (h2.copyC t4 ht) ?_)))
  rintro M3 ⟨w3, g3, f3⟩
  rw [f2, f1] at w3 f3
  refine zT_bd (zT_w (X6_earn t4 w3 ha _) ?_)
  rintro M4 ⟨w4, g4⟩
  have g14 := ((g1.tr g2).tr g3).tr (zblk.st ht g4)
  have h4 := h.sc (zst.sc g14)
  rw [h4.how]
  have en : rowF M a + -nI d = rowF M a - nI d := (Int32.sub_eq_add_neg _ _).symm
  rw [en] at w4
  have gt := h.gd.take ha ee (by omega) (by omega) hd
  refine zT_bd (zT_w (h4.eveC t4 ht w4 gt (by omega) h.ok.1) ?_)
  rintro M5 ⟨w5, g5, f5⟩
  have g15 := g14.tr g5
  have h5 := h.sc (zst.sc g15)
  have f5 := zst.rws g15
  refine zT_bd (zT_eq (X6_paidBy t4 w5 hb) (zT_some (zT_some ⟨zst.sk g15, ?_⟩)))
  refine zT_bd (zT_eq (zHy h.md hn h5.n40 ha) (zT_if0 (by decide) (zT_bd (zT_eq (zHy h.md hn h5.n40 hb) (zT_if0 (by decide) (zT_bd (zT_w h5.copyR ?_)))))))
  rintro M6 ⟨e6, g6, f6⟩
  rw [f5] at e6 f6
  have h6 := h5.sc (zsr.sc g6)
  refine zT_bd (zT_eq (X12_shownOf h.md (by omega)) (zT_bd ?_))
  rw [e6]
  refine zT_eq (in_y h0 (by rw [Int32.not_lt]; exact hle)) (zT_if0 (by decide) (zT_bd2 (zT_w (h6.paidR (by rw [e6]; exact h.gd) (by omega) (by omega) hb) ?_)))
  rintro ⟨y, M7⟩ ⟨e7, e7b, g7⟩
  simp only at e7 e7b g7 ⊢
  rw [e6] at e7 e7b
  have h7 := h6.sc (zsr.sc g7)
  have f7 : rowF M7 = rowF M := by rw [← f6]; exact zSt.rowR g7 e7b (fun j hj => by rw [f6]; exact eveF_fx h.gd (by omega) (by omega) (Or.inr hj))
  refine zT_bd (zT_w h7.copyR ?_)
  rintro M8 ⟨e8, g8, f8⟩
  rw [f7] at e8
  refine zT_ck (zin_nI (by omega) (by omega)) (zT_ck (zin_nI (by omega) (by omega)) (zT_lt (zT_bd2 ?_)))
  rw [ztn_nI (by omega)]
  have e9 : zup M8 271 a (M8 271 a - nI d) 271 = upd (rowF M) a (rowF M a - nI d) := by rw [zup_upd, e8]
  have g9 : zag zsr M7 (zup M8 271 a (M8 271 a - nI d)) := g8.up (by unfold zsr; omega)
  generalize zup M8 271 a (M8 271 a - nI d) = M9 at e9 g9 ⊢
  have h9 := h7.sc (zsr.sc g9)
  refine zT_w (h9.paidR (by rw [e9]; exact gt) (by omega) (by omega) hb) ?_
  rintro ⟨z, M10⟩ ⟨e10, e10b, g10⟩
  simp only at e10 g10 ⊢
  rw [e9] at e10
  refine zT_some ⟨?_, ((g6.tr g7).tr g9).tr g10⟩
  show y - z = _
  rw [e7, e10]
theorem zLoan (h : zSt R M ru q l n T S u x) (hT : T + 3100000 < 2147483648) (hS : S + 400 < 2147483648) (x1 x2 x3 x4 : Int32) : zAns R M ru q l n T S u x (f_X11_loan R M 2 x1 x2 x3 x4) (fun M1 => f_X12_loan R M1 242 x1 x2 x3 x4) := by
  have hn := h.n10
  obtain ⟨t0, t1, t2, t3, t4, -⟩ := h.rt
  have ht : zTr 195 := by unfold zTr; omega
  unfold zAns f_X11_loan f_X12_loan
  rw [h.x2, h.q8, h.xr.2.2.2.2.2.1, h.r46]
  rcases nI_cases x1 n (by omega) with ⟨a, ha, rfl⟩ | hx1
  rotate_left
  · exact zT_bd (zT_eq (hz_no h.rw0 hx1) (zT_if1 rfl (zT_some ⟨zag.rf, zT_bd (zT_eq (zHn h.md hn h.n40 hx1) (zT_if1 rfl (zT_some ⟨rfl, zag.rf⟩)))⟩)))
  refine zT_bd (zT_eq (hz_yes h.rw0 ha) (zT_if0 (by decide) ?_))
  rcases nI_cases x2 n (by omega) with ⟨b, hb, rfl⟩ | hx2
  rotate_left
  · exact zT_bd (zT_eq (hz_no h.rw0 hx2) (zT_if1 rfl (zT_some ⟨zag.rf, zT_bd (zT_eq (zHy h.md hn h.n40 ha) (zT_if0 (by decide) (zT_bd (zT_eq (zHn h.md hn h.n40 hx2) (zT_if1 rfl (zT_some ⟨rfl, zag.rf⟩))))))⟩)))
  refine zT_bd (zT_eq (hz_yes h.rw0 hb) (zT_if0 (by decide) ?_))
  by_cases hab : nI a = nI b
  · exact zT_if1 hab (zT_some ⟨zag.rf, zT_bd (zT_eq (zHy h.md hn h.n40 ha) (zT_if0 (by decide) (zT_bd (zT_eq (zHy h.md hn h.n40 hb) (zT_if0 (by decide) (zT_if1 hab (zT_some ⟨rfl, zag.rf⟩)))))))⟩)
  have nab : a ≠ b := fun e => hab (by rw [e])
  refine zT_if0 hab ?_
  obtain ⟨e, he, ee⟩ := h.gd.sh ha
  have no : ∀ K : zM → Option (Int32 × zM), x3 < 1 ∨ shF (rowF M) a < x3 → zT (zbd (f_X12_isHouse R M 242 (nI a)) fun r1 => if r1 = 0 then some ((-1000000 : Int32), M) else zbd (f_X12_isHouse R M 242 (nI b)) fun r4 => if r4 = 0 then some ((-1000000 : Int32), M) else if nI a = nI b then some ((-1000000 : Int32), M) else zbd (f_X12_copies R M 242) fun M8 => zbd (f_X12_shownOf R M8 242 (nI a)) fun r10 => zbd (f_X12_in x3 (1 : Int32) r10) fun r12 => if r12 = 0 then some ((-1000000 : Int32), M8) else K M8) (fun p1 => p1.1 = -1000000 ∧ zag zsr M p1.2) := fun K hx => by
    refine zT_bd (zT_eq (zHy h.md hn h.n40 ha) (zT_if0 (by decide) (zT_bd (zT_eq (zHy h.md hn h.n40 hb) (zT_if0 (by decide) (zT_if0 hab (zT_bd (zT_w h.copyR ?_))))))))
    rintro M3 ⟨e3, g3, f3⟩
    refine zT_bd (zT_eq (X12_shownOf h.md (by omega)) (zT_bd ?_))
    rw [e3]
    exact zT_eq (in_n hx) (zT_if1 rfl (zT_some ⟨rfl, g3⟩))
  by_cases h0 : x3 < 1
  · exact zT_if1 h0 (zT_some ⟨zag.rf, no _ (Or.inl h0)⟩)
  have h00 : ¬ x3 < 0 := fun q => h0 (Int32.lt_trans q (by decide))
  refine zT_if0 h0 (zT_bd (zT_eq (X6_shown h.r13 h.row ha) ?_))
  by_cases hle : x3 ≤ shF (rowF M) a
  rotate_left
  · exact zT_if0 hle (zT_some ⟨zag.rf, no _ (Or.inr (i_lt_of hle))⟩)
  obtain ⟨d, hd, rfl⟩ := nI_upto (e := e) h00 (by rw [← ee]; exact hle) (by omega)
  refine zT_if1 hle (zT_bd2 ?_)
  obtain ⟨W1, hW1⟩ : ∃ w, w = eveF n (ruH ru) ru (rowF M) := ⟨_, rfl⟩
  have gm := h.gd.move ha hb ee (by omega) (by omega) hd
  obtain ⟨W2, hW2⟩ : ∃ w, w = eveF n (ruH ru) ru (moveF (rowF M) a b (nI d)) := ⟨_, rfl⟩
  have g2d : zGd n (T + 9990) (S + 1) W2 := by rw [hW2]; exact gm.eve (by omega) (by omega)
  obtain ⟨back, hback⟩ : ∃ y, y = if shF W2 b < nI d then shF W2 b else nI d := ⟨_, rfl⟩
  obtain ⟨ans, hans⟩ : ∃ y, y = if x4 = 0 then W1 a - W2 a - back else W2 b - back - W1 b := ⟨_, rfl⟩
  have cls : zT (f_X0_rate R M 194 q 13 (nI a) (nI b) (nI d) x4) (fun p => p.1 = ans ∧ zag zst M p.2) := by
    unfold f_X0_rate
    rw [t3]
    refine zT_bd (zT_w (h.copyC t4 ht) ?_)
    rintro M1 ⟨w1, g1, f1⟩
    have h1 := h.sc (zst.sc g1)
    rw [h1.how]
    refine zT_bd (zT_w (h1.eveC t4 ht w1 h.gd (by omega) h.ok.1) ?_)
    rintro M2 ⟨w2, g2, f2⟩
    rw [← hW1] at w2
    have g12 := g1.tr g2
    have h2 := h.sc (zst.sc g12)
    have f2 := zst.rws g12
    have j45 : ∀ s0, (s0 = if x4 = 0 then W1 a else W1 b) → zT (j_X0_rate_45 R M2 194 q 13 (nI a) (nI b) (nI d) x4 s0) (fun p => p.1 = ans ∧ zag zst M p.2) := fun s0 hs0 => by
      unfold j_X0_rate_45
      rw [t3]
      refine zT_bd (zT_w (h2.copyC t4 ht) ?_)
      rintro M3 ⟨w3, g3, f3⟩
      rw [f2] at w3
      refine zT_bd (zT_w (X6_move t4 w3 ha hb _) ?_)
      rintro M4 ⟨w4, g4⟩
      have g14 := (g12.tr g3).tr (zblk.st ht g4)
      have h4 := h.sc (zst.sc g14)
      rw [h4.how]
      refine zT_bd (zT_w (h4.eveC t4 ht w4 gm (by omega) h.ok.1) ?_)
      rintro M5 ⟨w5, g5, f5⟩
      rw [← hW2] at w5
      refine zT_bd (zT_eq (X6_shown t4 w5 hb) ?_)
      rw [← hback]
      refine zT_bd (zT_w (X6_move t4 w5 hb ha _) ?_)
      rintro M6 ⟨w6, g6⟩
      have g16 := (g14.tr g5).tr (zblk.st ht g6)
      have ma : moveF W2 b a back a = W2 a + back := by
        unfold moveF
        rw [upd_s, upd_n nab]
      have mb : moveF W2 b a back b = W2 b - back := by
        unfold moveF
        rw [upd_n (Ne.symm nab), upd_s]
      refine zT_if (fun c => zT_bd (zT_eq (X6_purseOf t4 w6 ha) (zT_some ⟨?_, g16⟩))) (fun c => zT_bd (zT_eq (X6_purseOf t4 w6 hb) (zT_some ⟨?_, g16⟩)))
      · show s0 - moveF W2 b a back a = ans
        rw [ma, hans, hs0, if_pos c, if_pos c]
        simp only [Int32.sub_eq_add_neg, Int32.neg_add, Int32.add_assoc]
      · show moveF W2 b a back b - s0 = ans
        rw [mb, hans, hs0, if_neg c, if_neg c]
    refine zT_if (fun c => zT_bd (zT_eq (X6_purseOf t4 w2 ha) (j45 _ (by rw [if_pos c])))) (fun c => zT_bd (zT_eq (X6_purseOf t4 w2 hb) (j45 _ (by rw [if_neg c]))))
  refine zT_w cls ?_
  rintro ⟨y, M1⟩ ⟨ey, g1⟩
  refine zT_some ⟨zst.sk g1, ?_⟩
  have h1 := h.sc (zst.sc g1)
  have f1 := zst.rws g1
  refine zT_bd (zT_eq (zHy h.md hn h1.n40 ha) (zT_if0 (by decide) (zT_bd (zT_eq (zHy h.md hn h1.n40 hb) (zT_if0 (by decide) (zT_if0 hab (zT_bd (zT_w h1.copyR ?_))))))))
  rintro M2 ⟨e2, g2, f2⟩
  simp only at g2 f2
  rw [f1] at e2 f2
  have h2 := h1.sc (zsr.sc g2)
  refine zT_bd (zT_eq (X12_shownOf h.md (by omega)) (zT_bd ?_))
  rw [e2]
  refine zT_eq (in_y h0 (by rw [Int32.not_lt]; exact hle)) (zT_if0 (by decide) (zT_bd (zT_w (h2.evesR (c := 1) (by rw [e2]; exact h.gd) (by omega) (by omega) (by omega)) ?_)))
  rintro M3 ⟨e3, g3⟩
  rw [e2] at e3
  replace e3 : M3 271 = W1 := by rw [e3, hW1]; rfl
  have h3 := h2.sc (zsr.sc g3)
  have f3 : rowF M3 = rowF M := by rw [← f2]; exact zSt.rowR g3 e3 (fun j hj => by rw [f2, hW1]; exact eveF_fx h.gd (by omega) (by omega) (Or.inr hj))
  have hz := zin_nI (k := a) (n := 60) (by omega) (by omega)
  have hz2 := zin_nI (k := b) (n := 60) (by omega) (by omega)
  refine zT_ck hz (zT_ck hz2 (zT_bd (zT_w h3.copyR ?_)))
  rintro M4 ⟨e4, g4, f4⟩
  rw [f3] at e4
  refine zT_ck hz (zT_ck hz (zT_lt (zT_ck hz2 (zT_ck hz2 (zT_lt (zT_bd ?_))))))
  rw [ztn_nI (by omega), ztn_nI (by omega), e3]
  have e5 : zup (zup M4 271 a (M4 271 a - nI d)) 271 b (zup M4 271 a (M4 271 a - nI d) 271 b + nI d) 271 = moveF (rowF M) a b (nI d) := by
    rw [zup_upd, zup_upd, e4]
    rfl
  have g5 : zag zsr M3 (zup (zup M4 271 a (M4 271 a - nI d)) 271 b (zup M4 271 a (M4 271 a - nI d) 271 b + nI d)) := (g4.up (by unfold zsr; omega)).up (by unfold zsr; omega)
  generalize zup (zup M4 271 a (M4 271 a - nI d)) 271 b (zup M4 271 a (M4 271 a - nI d) 271 b + nI d) = M5 at e5 g5 ⊢
  have h5 := h3.sc (zsr.sc g5)
  refine zT_w (h5.evesR (c := 1) (by rw [e5]; exact gm) (by omega) (by omega) (by omega)) ?_
  rintro M6 ⟨e6, g6⟩
  rw [e5] at e6
  replace e6 : M6 271 = W2 := by rw [e6, hW2]; rfl
  have gg := ((g2.tr g3).tr g5).tr g6
  have fin : ∀ s0, s0 = back → zT (j_X12_loan_114 R M6 242 (nI a) (nI b) x4 (W1 a) (W1 b) s0) (fun p1 => p1.1 = ans ∧ zag zsr M1 p1.2) := fun s0 hs0 => by
    unfold j_X12_loan_114
    rw [h.r46, ztn_nI (by omega), ztn_nI (by omega), e6, hs0, hans]
    refine zT_if (fun c => zT_ck hz (zT_some ⟨?_, gg⟩)) (fun c => zT_ck hz2 (zT_some ⟨?_, gg⟩))
    · rw [if_pos c]
    · rw [if_neg c]
  refine zT_bd (zT_eq (X12_shownOf h.md (by omega)) ?_)
  rw [e6]
  show zT _ (fun p1 : Int32 × zM => p1.1 = y ∧ zag zsr M1 p1.2)
  rw [show y = ans from ey]
  refine zT_if (fun c => zT_bd (zT_eq (X12_shownOf h.md (by omega)) (fin _ ?_))) (fun c => fin _ ?_)
  · rw [e6, hback]
    by_cases c2 : shF W2 b < nI d
    · rw [if_pos c2]
    · rw [if_neg c2]
      exact Int32.le_antisymm c (i_le_of c2)
  · rw [hback, if_neg (fun q => c (Int32.le_of_lt q))]
end TRY

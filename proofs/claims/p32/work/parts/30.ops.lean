/-! HOUSE, COUNT -/
theorem zsk.rws {M M1 : zM} (g : zag zsk M M1) : rowF M1 = rowF M := by
  unfold rowF
  rw [g.row (a := 270) (fun k => by unfold zsk; omega), g.row (a := 271) (fun k => by unfold zsk; omega)]
theorem X7_gapOf {R : zR} {M : zM} {q r n h : Nat} {w : Nat → Int32} {ru : zRu} (hc : zCr R M q ru) (hR : zrg R r) (hw : RW M r n w) (hq : r + 5 ≤ q) (hh : h < n) : zT (f_X7_gapOf R M q r (nI h)) (fun p => p.1 = gapF n (ruS ru) w h ∧ zag (lkA q) M p.2) := by
  unfold f_X7_gapOf
  rw [hc.2.2.1]
  refine zT_bd (zT_eq (hz_yes hw hh) (zT_if0 (by decide) (zT_bd (zT_w (X7_look hc hR hw hq hh 0) ?_))))
  rintro M1 ⟨g1, v1⟩
  exact zT_some ⟨v1 3 (by omega) (by omega), g1⟩
section OPS
variable {R : zR} {M : zM} {ru : zRu} {q l n T S u x : Nat}
theorem zHouseO (h : zSt R M ru q l n T S u x) (hT : T + 3100000 < 2147483648) (x1 x2 : Int32) : zT (f_X11_house R M 2 x1 x2) (fun p => zT (f_X12_house R p.2 242 x1 x2) (fun p1 => p1.1 = p.1 ∧ zOut R p1.2 (T + 3000000) (S + 300))) := by
  have o0 : zOut R M (T + 3000000) (S + 300) := h.out (by omega) (by omega)
  have hn := h.n10
  have hq := h.qq
  unfold f_X11_house
  rw [h.x2, h.r13.1, h.r13.2.1, h.r13.2.2.1, h.r13.2.2.2, h.q8]
  rcases nI_cases x1 n (by omega) with ⟨a, ha, rfl⟩ | hx1
  rotate_left
  · unfold f_X12_house
    exact zT_bd (zT_eq (hz_no h.rw0 hx1) (zT_if1 rfl (zT_some (zT_bd (zT_eq (zHn h.md hn h.n40 hx1) (zT_if1 rfl (zT_some ⟨rfl, o0⟩)))))))
  refine zT_bd (zT_eq (hz_yes h.rw0 ha) (zT_if0 (by decide) ?_))
  obtain ⟨f1, f2, f3, f4⟩ := h.row.2.2.2.2.2.2 a ha
  have hz := zin_nI (k := a) (n := 10) (by omega) (by omega)
  rw [ztn_nI (by omega)]
  -- the reference's answer
  have rf : ∀ (M1 : zM) (v : Int32), zag zsk M M1 → (∀ M3 : zM, M3 271 = rowF M → zMs M3 l ru → M3 242 18 = nI l → zT (if x2 = 0 then (zck (zin (nI a) 60) <| some ((M3 271 (ztn (nI a))), M3)) else if x2 = 1 then (zck (zin ((10 : Int32) + nI a) 60) <| some ((M3 271 (ztn ((10 : Int32) + nI a))), M3)) else if x2 = 2 then (zbd (f_X12_shownOf R M3 242 (nI a)) fun r15 => some (r15, M3)) else if x2 = 3 then (zbd (f_X12_gapOf R M3 242 (nI a)) fun r17 => some (r17, M3)) else if x2 = 4 then (zbd2 (f_X12_wanted R M3 242 (nI a)) fun r19 M20 => some (r19, M20)) else if x2 = 5 then (zck (zin ((20 : Int32) + nI a) 60) <| some ((M3 271 (ztn ((20 : Int32) + nI a))), M3)) else if x2 = 6 then (zck (zin ((30 : Int32) + nI a) 60) <| some ((M3 271 (ztn ((30 : Int32) + nI a))), M3)) else some ((-1 : Int32), M3)) (fun p1 => p1.1 = v ∧ zag zsr M3 p1.2)) → zT (f_X12_house R M1 242 (nI a) x2) (fun p1 => p1.1 = v ∧ zOut R p1.2 (T + 3000000) (S + 300)) := by
    intro M1 v g k
    have h1 := h.sc (zsk.sc g)
    unfold f_X12_house
    refine zT_bd (zT_eq (zHy h.md hn h1.n40 ha) (zT_if0 (by decide) (zT_bd (zT_w (X12_copies h.md) ?_))))
    rintro M3 ⟨e3, g3⟩
    rw [h.r46]
    refine zT_w (k M3 (e3.trans (zsk.rws g)) (h1.ms.eq (fun a k q1 q2 => g3 a k (by omega))) (by rw [g3 242 18 (by omega)]; exact h1.l18)) ?_
    rintro ⟨y, M4⟩ ⟨e4, g4⟩
    exact ⟨e4, (h1.sc ((zsr.sc (z271.sr g3)).tr (zsr.sc g4))).out (by omega) (by omega)⟩
  by_cases c0 : x2 = 0
  · refine zT_if1 c0 (zT_ck hz (zT_some (rf M _ zag.rf (fun M3 e _ _ => zT_if1 c0 (zT_ck (zin_nI (by omega) (by omega)) (zT_some ⟨?_, zag.rf⟩))))))
    rw [ztn_nI (by omega), e]
    exact f1.symm
  refine zT_if0 c0 ?_
  by_cases c1 : x2 = 1
  · refine zT_if1 c1 (zT_ck hz (zT_some (rf M _ zag.rf (fun M3 e _ _ => zT_if0 c0 (zT_if1 c1 ?_)))))
    rw [nI_lit 10, nI_add]
    refine zT_ck (zin_nI (by omega) (by omega)) (zT_some ⟨?_, zag.rf⟩)
    rw [ztn_nI (by omega), e]
    exact f2.symm
  refine zT_if0 c1 ?_
  by_cases c2 : x2 = 2
  · refine zT_if1 c2 (zT_bd (zT_eq (X6_shown h.r13 h.row ha) (zT_some (rf M _ zag.rf (fun M3 e _ _ => zT_if0 c0 (zT_if0 c1 (zT_if1 c2 (zT_bd (zT_eq (X12_shownOf h.md (by omega)) (zT_some ⟨?_, zag.rf⟩))))))))))
    rw [e]
  refine zT_if0 c2 ?_
  by_cases c3 : x2 = 3
  · refine zT_if1 c3 (zT_bd2 (zT_w (X7_gapOf h.cr h.r13 h.row (by omega) ha) ?_))
    rintro ⟨y, M1⟩ ⟨e1, g1⟩
    refine zT_some (rf M1 _ (g1.mo (fun b k e => by unfold lkA at e; unfold zsk; omega)) (fun M3 e hs hv => zT_if0 c0 (zT_if0 c1 (zT_if0 c2 (zT_if1 c3 (zT_bd (zT_eq (X12_gapOf h.md hn (by rw [e]; exact h.gd.2.1) ha hs.1 hv) (zT_some ⟨?_, zag.rf⟩))))))))
    show gapF n (M3 253 l) (M3 271) a = y
    rw [e, hs.2.1]
    exact e1.symm
  refine zT_if0 c3 ?_
  by_cases c4 : x2 = 4
  · refine zT_if1 c4 (zT_bd2 (zT_w (X7_wanted h.cr h.ok h.r13 h.row (by omega) ha) ?_))
    rintro ⟨y, M1⟩ ⟨e1, g1⟩
    refine zT_some (rf M1 _ (g1.mo (fun b k e => by unfold zsk; omega)) (fun M3 e hs hv => zT_if0 c0 (zT_if0 c1 (zT_if0 c2 (zT_if0 c3 (zT_if1 c4 (zT_bd2 (zT_w (X12_wanted h.md hs hv (by rw [e]; exact h.gd) (by omega) ha) ?_))))))))
    rintro ⟨z, M4⟩ ⟨e4, g4⟩
    refine zT_some ⟨?_, tlA.sr g4⟩
    show z = y
    rw [show z = _ from e4, show y = _ from e1, e]
  refine zT_if0 c4 ?_
  by_cases c5 : x2 = 5
  · refine zT_if1 c5 (zT_ck hz (zT_some (rf M _ zag.rf (fun M3 e _ _ => zT_if0 c0 (zT_if0 c1 (zT_if0 c2 (zT_if0 c3 (zT_if0 c4 (zT_if1 c5 ?_)))))))))
    rw [nI_lit 20, nI_add]
    refine zT_ck (zin_nI (by omega) (by omega)) (zT_some ⟨?_, zag.rf⟩)
    rw [ztn_nI (by omega), e]
    exact f3.symm
  refine zT_if0 c5 ?_
  by_cases c6 : x2 = 6
  · refine zT_if1 c6 (zT_ck hz (zT_some (rf M _ zag.rf (fun M3 e _ _ => zT_if0 c0 (zT_if0 c1 (zT_if0 c2 (zT_if0 c3 (zT_if0 c4 (zT_if0 c5 (zT_if1 c6 ?_))))))))))
    rw [nI_lit 30, nI_add]
    refine zT_ck (zin_nI (by omega) (by omega)) (zT_some ⟨?_, zag.rf⟩)
    rw [ztn_nI (by omega), e]
    exact f4.symm
  exact zT_if0 c6 (zT_some (rf M _ zag.rf (fun M3 e _ _ => zT_if0 c0 (zT_if0 c1 (zT_if0 c2 (zT_if0 c3 (zT_if0 c4 (zT_if0 c5 (zT_if0 c6 (zT_some ⟨rfl, zag.rf⟩))))))))))
def bF (M : zM) (s : Nat) : Int32 := if M 21 s = 0 then 0 else 1
theorem X2_isHeld (h : zSt R M ru q l n T S u x) {s : Nat} (hs : s < 3) : f_X2_isHeld R M 18 (nI s) = some (bF M s) := by
  unfold f_X2_isHeld bF
  rw [if_neg (nI_pos (by omega)), nI_lit 3, if_neg (nI_ge hs (by omega)), h.kr.2.2.1, ztn_nI (by omega)]
  unfold zck
  rw [if_pos (zin_nI hs (by omega))]
  by_cases c : M 21 s = 0
  · rw [if_pos c, if_pos c]
  · rw [if_neg c, if_neg c]
theorem X2_held (h : zSt R M ru q l n T S u x) : f_X2_heldSlots R M 18 = some (bF M 0 + bF M 1 + bF M 2) := by
  apply zT_val
  unfold f_X2_heldSlots
  refine zT_bd ?_
  refine zT_for 3 (fun k v => v.2 = nI k ∧ v.1 = (match k with | 0 => 0 | 1 => bF M 0 | 2 => bF M 0 + bF M 1 | _ => bF M 0 + bF M 1 + bF M 2)) ⟨rfl, rfl⟩ (by omega) ?_ ?_
  · rintro k ⟨y, z⟩ hk ⟨rfl, rfl⟩
    unfold b_X2_heldSlots_4
    simp only
    refine zT_if0 (by rw [nI_lit 3]; exact nI_ge hk (by omega)) (zT_bd (zT_eq (X2_isHeld h hk) ?_))
    have z0 : ∀ y : Int32, y + 0 = y := fun y => Int32.add_zero y
    rcases (show k = 0 ∨ k = 1 ∨ k = 2 by omega) with rfl | rfl | rfl
    · refine zT_if (fun e => zT_some ⟨nI_1 _, ?_⟩) (fun e => zT_some ⟨nI_1 _, ?_⟩)
      · exact e.symm
      · show (0 : Int32) + 1 = bF M 0
        unfold bF at e ⊢
        split at e
        · exact absurd rfl e
        · rename_i c; rw [if_neg c]; rfl
    · refine zT_if (fun e => zT_some ⟨nI_1 _, ?_⟩) (fun e => zT_some ⟨nI_1 _, ?_⟩)
      · show bF M 0 = bF M 0 + bF M 1
        rw [e, z0]
      · show bF M 0 + 1 = bF M 0 + bF M 1
        have : bF M 1 = 1 := by
          unfold bF at e ⊢
          split at e
          · exact absurd rfl e
          · rename_i c; rw [if_neg c]
        rw [this]
    · refine zT_if (fun e => zT_some ⟨nI_1 _, ?_⟩) (fun e => zT_some ⟨nI_1 _, ?_⟩)
      · show bF M 0 + bF M 1 = bF M 0 + bF M 1 + bF M 2
        rw [e, z0]
      · show bF M 0 + bF M 1 + 1 = bF M 0 + bF M 1 + bF M 2
        have : bF M 2 = 1 := by
          unfold bF at e ⊢
          split at e
          · exact absurd rfl e
          · rename_i c; rw [if_neg c]
        rw [this]
  · rintro ⟨y, z⟩ ⟨rfl, rfl⟩
    unfold b_X2_heldSlots_4
    simp only
    exact zT_if1 (by decide) (zT_some (zT_some rfl))
theorem zCountO (h : zSt R M ru q l n T S u x) (x1 : Int32) : zT (f_X11_count R M 2 x1) (fun p => zT (f_X12_count R M 242 x1) (fun p1 => p1 = p ∧ zOut R M (T + 3000000) (S + 300))) := by
  have o0 : zOut R M (T + 3000000) (S + 300) := h.out (by omega) (by omega)
  have hn := h.n10
  have hl := h.ll
  obtain ⟨w0, w1, w2, w3, w4, w5, w6⟩ := h.rw0
  obtain ⟨_, _, _, _, c6, c7, c8, c9, _⟩ := h.cr
  obtain ⟨_, s3, s4, s5, s6, _⟩ := h.ms
  have r24 : R 242 24 = 253 := h.md.at rfl (by decide)
  have r25 : R 242 25 = 254 := h.md.at rfl (by decide)
  have r26 : R 242 26 = 255 := h.md.at rfl (by decide)
  have r27 : R 242 27 = 256 := h.md.at rfl (by decide)
  have r59 : R 242 59 = 281 := h.md.at rfl (by decide)
  have x7 : R 2 7 = 207 := h.xr.2.2.2.2.2.2.2
  have x0 : R 2 0 = 3 := h.xr.1
  obtain ⟨t, _, t2, t3, _⟩ := h.to
  obtain ⟨t', _, t2', t3', _⟩ := h.tp
  obtain ⟨_, _, k48, k4, _⟩ := h.kp
  have hz := zin_nI (k := l) (n := 2) hl (by omega)
  unfold f_X11_count f_X12_count
  rw [h.x2, h.x3, h.q8, x7, x0, h.r45, h.l18, r24, r25, r26, r27, r59, ztn_nI (by omega)]
  by_cases e0 : x1 = 0
  · exact zT_if1 e0 (zT_some (zT_if1 e0 (zT_some ⟨by rw [w1]; exact w2, o0⟩)))
  refine zT_if0 e0 ?_
  by_cases e1 : x1 = 1
  · rw [c6]
    refine zT_if1 e1 (zT_if (fun a => zT_some (zT_if0 e0 (zT_if1 e1 (zT_ck hz (zT_if1 ?_ (zT_some ⟨rfl, o0⟩)))))) (fun a => zT_some (zT_if0 e0 (zT_if1 e1 (zT_ck hz (zT_if0 ?_ (zT_some ⟨rfl, o0⟩)))))))
    · rw [s3]; exact a
    · rw [s3]; exact a
  refine zT_if0 e1 ?_
  by_cases e2 : x1 = 2
  · rw [c7]
    refine zT_if1 e2 (zT_if (fun a => zT_some (zT_if0 e0 (zT_if0 e1 (zT_if1 e2 (zT_ck hz (zT_if1 ?_ (zT_some ⟨rfl, o0⟩))))))) (fun a => zT_some (zT_if0 e0 (zT_if0 e1 (zT_if1 e2 (zT_ck hz (zT_if0 ?_ (zT_some ⟨rfl, o0⟩))))))))
    · rw [s4]; exact a
    · rw [s4]; exact a
  refine zT_if0 e2 ?_
  by_cases e3 : x1 = 3
  · exact zT_if1 e3 (zT_some (zT_if0 e0 (zT_if0 e1 (zT_if0 e2 (zT_if1 e3 (zT_ck hz (zT_some ⟨by rw [s5, c8], o0⟩)))))))
  refine zT_if0 e3 ?_
  by_cases e4 : x1 = 4
  · exact zT_if1 e4 (zT_some (zT_if0 e0 (zT_if0 e1 (zT_if0 e2 (zT_if0 e3 (zT_if1 e4 (zT_ck hz (zT_some ⟨by rw [s6, c9], o0⟩))))))))
  refine zT_if0 e4 ?_
  by_cases e5 : x1 = 5
  · exact zT_if1 e5 (zT_some (zT_if0 e0 (zT_if0 e1 (zT_if0 e2 (zT_if0 e3 (zT_if0 e4 (zT_if1 e5 (zT_some ⟨w3.symm, o0⟩))))))))
  refine zT_if0 e5 ?_
  by_cases e6 : x1 = 6
  · exact zT_if1 e6 (zT_some (zT_if0 e0 (zT_if0 e1 (zT_if0 e2 (zT_if0 e3 (zT_if0 e4 (zT_if0 e5 (zT_if1 e6 (zT_some ⟨w4.symm, o0⟩)))))))))
  refine zT_if0 e6 ?_
  by_cases e7 : x1 = 7
  · refine zT_if1 e7 (zT_bd (zT_eq (X6_total h.r13 h.rw0) (zT_some (zT_if0 e0 (zT_if0 e1 (zT_if0 e2 (zT_if0 e3 (zT_if0 e4 (zT_if0 e5 (zT_if0 e6 (zT_if1 e7 (zT_bd ?_)))))))))))) 
    refine zT_for n (fun k v => v.2 = nI k ∧ v.1 = sumF (M 270) k) ⟨rfl, rfl⟩ (by omega) ?_ ?_
    · rintro k ⟨y, z⟩ hk ⟨rfl, rfl⟩
      unfold b_X12_count_152
      have f40 : M 270 (ztn (40 : Int32)) = nI n := h.n40
      rw [h.r45, f40]
      refine zT_if0 (nI_ge hk (by omega)) (zT_ck (zin_nI (by omega) (by omega)) (zT_some ⟨nI_1 k, ?_⟩))
      show sumF (M 270) k + M 270 (ztn (nI k)) = _
      rw [ztn_nI (by omega)]
      rfl
    · rintro ⟨y, z⟩ ⟨rfl, rfl⟩
      unfold b_X12_count_152
      have f40 : M 270 (ztn (40 : Int32)) = nI n := h.n40
      rw [h.r45, f40]
      exact zT_if1 (nI_le (Nat.le_refl _) (by omega)) (zT_some (zT_some ⟨rfl, o0⟩))
  refine zT_if0 e7 ?_
  by_cases e8 : x1 = 8
  · exact zT_if1 e8 (zT_some (zT_if0 e0 (zT_if0 e1 (zT_if0 e2 (zT_if0 e3 (zT_if0 e4 (zT_if0 e5 (zT_if0 e6 (zT_if0 e7 (zT_if1 e8 (zT_some ⟨w5.symm, o0⟩)))))))))))
  refine zT_if0 e8 ?_
  by_cases e9 : x1 = 9
  · exact zT_if1 e9 (zT_some (zT_if0 e0 (zT_if0 e1 (zT_if0 e2 (zT_if0 e3 (zT_if0 e4 (zT_if0 e5 (zT_if0 e6 (zT_if0 e7 (zT_if0 e8 (zT_if1 e9 (zT_some ⟨by rw [t2', t3'], o0⟩))))))))))))
  refine zT_if0 e9 ?_
  by_cases e10 : x1 = 10
  · exact zT_if1 e10 (zT_some (zT_if0 e0 (zT_if0 e1 (zT_if0 e2 (zT_if0 e3 (zT_if0 e4 (zT_if0 e5 (zT_if0 e6 (zT_if0 e7 (zT_if0 e8 (zT_if0 e9 (zT_if1 e10 (zT_some ⟨by rw [k4, k48], o0⟩)))))))))))))
  refine zT_if0 e10 ?_
  by_cases e11 : x1 = 11
  · exact zT_if1 e11 (zT_some (zT_if0 e0 (zT_if0 e1 (zT_if0 e2 (zT_if0 e3 (zT_if0 e4 (zT_if0 e5 (zT_if0 e6 (zT_if0 e7 (zT_if0 e8 (zT_if0 e9 (zT_if0 e10 (zT_if1 e11 (zT_some ⟨by rw [t2, t3], o0⟩))))))))))))))
  refine zT_if0 e11 ?_
  by_cases e12 : x1 = 12
  rotate_left
  · exact zT_if0 e12 (zT_some (zT_if0 e0 (zT_if0 e1 (zT_if0 e2 (zT_if0 e3 (zT_if0 e4 (zT_if0 e5 (zT_if0 e6 (zT_if0 e7 (zT_if0 e8 (zT_if0 e9 (zT_if0 e10 (zT_if0 e11 (zT_if0 e12 (zT_some ⟨rfl, o0⟩)))))))))))))))
  refine zT_if1 e12 (zT_bd (zT_eq (X2_held h) (zT_some (zT_if0 e0 (zT_if0 e1 (zT_if0 e2 (zT_if0 e3 (zT_if0 e4 (zT_if0 e5 (zT_if0 e6 (zT_if0 e7 (zT_if0 e8 (zT_if0 e9 (zT_if0 e10 (zT_if0 e11 (zT_if1 e12 ?_))))))))))))))))
  have b281 : ∀ s, s < 3 → (M 281 s = 0 ∧ bF M s = 0) ∨ (M 281 s ≠ 0 ∧ bF M s = 1) := fun s hs => by
    rcases h.sl s hs with ⟨q1, q2⟩ | ⟨q1, q2, _⟩
    · exact Or.inl ⟨q2, by unfold bF; rw [if_pos q1]⟩
    · exact Or.inr ⟨by rw [q2]; decide, by unfold bF; rw [q1]; rfl⟩
  have j2 : ∀ a b : Int32, zT (j_X12_count_231 R M 242 a b) (fun p1 => p1 = a + b + bF M 2 ∧ zOut R M (T + 3000000) (S + 300)) := fun a b => by
    unfold j_X12_count_231 j_X12_count_246
    rw [r59]
    rcases b281 2 (by omega) with ⟨q1, q2⟩ | ⟨q1, q2⟩
    · exact zT_if1 q1 (zT_some ⟨by rw [q2], o0⟩)
    · exact zT_if0 q1 (zT_some ⟨by rw [q2], o0⟩)
  have j1 : ∀ a : Int32, zT (j_X12_count_217 R M 242 a) (fun p1 => p1 = a + bF M 1 + bF M 2 ∧ zOut R M (T + 3000000) (S + 300)) := fun a => by
    unfold j_X12_count_217
    rw [r59]
    rcases b281 1 (by omega) with ⟨q1, q2⟩ | ⟨q1, q2⟩
    · rw [q2]
      exact zT_if1 q1 (j2 a 0)
    · rw [q2]
      exact zT_if0 q1 (j2 a 1)
  rcases b281 0 (by omega) with ⟨q1, q2⟩ | ⟨q1, q2⟩
  · rw [q2]
    exact zT_if1 q1 (j1 0)
  · rw [q2]
    exact zT_if0 q1 (j1 1)
end OPS

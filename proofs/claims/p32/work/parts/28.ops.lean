/-! THE CALLS THAT CHANGE: build, burn, join -/
section OPS
variable {R : zR} {M : zM} {ru : zRu} {q l n T S u x : Nat}
theorem X11_isP_y {d : Nat} (hd : d ≤ 9999) : f_X11_isPurse (nI d) = some 1 := by
  unfold f_X11_isPurse
  rw [if_neg (nI_pos (by omega)), nI_lit 9999, if_neg (nI_nlt hd (by omega))]
theorem X11_isP_n {y : Int32} (h : y < 0 ∨ 9999 < y) : f_X11_isPurse y = some 0 := by
  unfold f_X11_isPurse
  by_cases h0 : y < 0
  · rw [if_pos h0]
  · rw [if_neg h0, if_pos (h.resolve_left h0)]
theorem zBuild (h : zSt R M ru q l n T S u x) (hT : T + 3100000 < 2147483648) (hS : S + 400 < 2147483648) (x1 x2 : Int32) : zT (f_X11_build R M 2 x1 x2) (fun p => zT (f_X12_build R p.2 242 x1 x2) (fun p1 => p1.1 = p.1 ∧ zOut R p1.2 (T + 3000000) (S + 300))) := by
  have o0 : zOut R M (T + 3000000) (S + 300) := h.out (by omega) (by omega)
  have hn := h.n10
  unfold f_X11_build f_X12_build
  rw [h.x2, h.x3, h.r45]
  have m4 : M 13 4 = nI n := h.rw0.2.1
  have m40 : M 270 (ztn (40 : Int32)) = nI n := h.n40
  rw [m4]
  -- the reference says no
  have no : n = 10 ∨ (x1 < 0 ∨ nI n < x1) ∨ (x2 < 0 ∨ 9999 < x2) → zT (some ((-1 : Int32), M)) (fun p => zT (if p.2 270 (ztn (40 : Int32)) = (10 : Int32) then some ((-1 : Int32), p.2) else zbd (f_X12_in x1 (0 : Int32) (p.2 270 (ztn (40 : Int32)))) fun r2 => if r2 = 0 then some ((-1 : Int32), p.2) else zbd (f_X12_in x2 (0 : Int32) (9999 : Int32)) fun r5 => if r5 = 0 then some ((-1 : Int32), p.2) else zbd (f_X12_copies R p.2 242) fun M8 => zbd (f_X12_builds R M8 242 x1 x2) fun M10 => zbd (f_X12_keeps R M10 242) fun M12 => some ((M12 270 (ztn (40 : Int32))), M12)) (fun p1 => p1.1 = p.1 ∧ zOut R p1.2 (T + 3000000) (S + 300))) := fun hx => zT_some (by
    show zT (if M 270 (ztn (40 : Int32)) = (10 : Int32) then _ else _) _
    rw [m40]
    by_cases h10 : nI n = 10
    · exact zT_if1 h10 (zT_some ⟨rfl, o0⟩)
    · refine zT_if0 h10 (zT_bd ?_)
      have hne : n ≠ 10 := fun q => h10 (by rw [q]; rfl)
      by_cases hi : x1 < 0 ∨ nI n < x1
      · exact zT_eq (in_n (by show x1 < 0 ∨ M 270 (ztn (40 : Int32)) < x1; rw [m40]; exact hi)) (zT_if1 rfl (zT_some ⟨rfl, o0⟩))
      · refine zT_eq (in_y (fun q => hi (Or.inl q)) (fun q => hi (Or.inr (by rw [← m40]; exact q)))) (zT_if0 (by decide) (zT_bd ?_))
        have hx2 : x2 < 0 ∨ 9999 < x2 := (hx.resolve_left hne).resolve_left hi
        exact zT_eq (in_n hx2) (zT_if1 rfl (zT_some ⟨rfl, o0⟩)))
  by_cases h0 : x1 < 0
  · exact zT_if1 h0 (no (Or.inr (Or.inl (Or.inl h0))))
  refine zT_if0 h0 ?_
  by_cases h1 : nI n < x1
  · exact zT_if1 h1 (no (Or.inr (Or.inl (Or.inr h1))))
  refine zT_if0 h1 ?_
  obtain ⟨a, ha, rfl⟩ := nI_upto (e := n) h0 (i_le_of h1) (by omega)
  have hfull : f_X6_isFull M 13 = some (if n < 10 then 0 else 1) := by
    unfold f_X6_isFull
    rw [m4, nI_lit 10]
    by_cases c : n < 10
    · rw [if_pos (nI_lt c (by omega)), if_pos c]
    · rw [if_neg (nI_nlt (by omega) (by omega)), if_neg c]
  by_cases hn10 : n < 10
  rotate_left
  · exact zT_bd (zT_eq hfull (zT_if0 (by rw [if_neg hn10]; decide) (no (Or.inl (by omega)))))
  refine zT_bd (zT_eq hfull (zT_if1 (by rw [if_pos hn10]) (zT_bd ?_)))
  by_cases hp : x2 < 0 ∨ 9999 < x2
  · exact zT_eq (X11_isP_n hp) (zT_if1 rfl (no (Or.inr (Or.inr hp))))
  obtain ⟨d, hd, rfl⟩ := nI_upto (e := 9999) (fun q => hp (Or.inl q)) (i_le_of (fun q => hp (Or.inr q))) (by omega)
  refine zT_eq (X11_isP_y hd) (zT_if0 (by decide) (zT_bd (zT_w h.note ?_)))
  rintro M1 ⟨nt, w1, c1⟩
  refine zT_bd (zT_w (X6_insert h.r13 w1 ha hn10 _) ?_)
  rintro M2 ⟨w2, g2⟩
  have g2c : zag cgA M1 M2 := g2.mo (fun b k e => by unfold zblk at e; unfold cgA; omega)
  obtain ⟨m0, m1, mr, ms, ml⟩ := h.mid nt g2c
  have h40 : M2 270 (ztn (40 : Int32)) = nI n := by rw [m0]; exact m40
  refine zT_some ?_
  show zT (if M2 270 (ztn (40 : Int32)) = (10 : Int32) then _ else zbd (f_X12_in (nI a) (0 : Int32) (M2 270 (ztn (40 : Int32)))) _) _
  rw [h40]
  refine zT_if0 (fun q => by rw [nI_lit 10] at q; have := nI_inj (by omega) (by omega) q; omega) (zT_bd (zT_eq (in_y (nI_pos (by omega)) (nI_nlt ha (by omega))) (zT_if0 (by decide) (zT_bd (zT_eq (in_y (nI_pos (by omega)) (by rw [nI_lit 9999]; exact nI_nlt hd (by omega))) (zT_if0 (by decide) (zT_bd (zT_w (X12_copies h.md) ?_))))))))
  rintro M3 ⟨e3, g3⟩
  have e3b : M3 271 = rowF M := e3.trans mr
  refine zT_bd (zT_w (X12_builds h.md hn10 ha (by rw [e3b]; exact h.gd.2.1) _) ?_)
  rintro M4 ⟨e4, g4⟩
  rw [e3b] at e4
  refine zT_bd (zT_w (h.did (T1 := T + 3000000) (S1 := S + 300) (by omega) (by omega) nt w2 g2c (z271.sr (g3.tr g4)) (by rw [e4]; exact eq60.rf) ((h.gd.build ha hn10 hd).mo (by omega) (by omega))) ?_)
  rintro M5 ⟨e5, o5⟩
  refine zT_some ⟨?_, o5⟩
  show M5 270 40 = M2 13 4
  rw [e5 40 (by omega), w2.2.1, w2.2.2.1]
theorem zBurn (h : zSt R M ru q l n T S u x) (hT : T + 3100000 < 2147483648) (hS : S + 400 < 2147483648) (x1 : Int32) : zT (f_X11_burn R M 2 x1) (fun p => zT (f_X12_burn R p.2 242 x1) (fun p1 => p1.1 = p.1 ∧ zOut R p1.2 (T + 3000000) (S + 300))) := by
  have o0 : zOut R M (T + 3000000) (S + 300) := h.out (by omega) (by omega)
  have hn := h.n10
  unfold f_X11_burn f_X12_burn
  rw [h.x2, h.x3, h.r46, h.r13.1]
  rcases nI_cases x1 n (by omega) with ⟨a, ha, rfl⟩ | hx1
  rotate_left
  · exact zT_bd (zT_eq (hz_no h.rw0 hx1) (zT_if1 rfl (zT_some (zT_bd (zT_eq (zHn h.md hn h.n40 hx1) (zT_if1 rfl (zT_some ⟨rfl, o0⟩)))))))
  refine zT_bd (zT_eq (hz_yes h.rw0 ha) (zT_if0 (by decide) (zT_bd (zT_w h.note ?_))))
  rintro M1 ⟨nt, w1, c1⟩
  have fa : M1 (13 + 1) a = rowF M a := (w1.2.2.2.2.2.2 a ha).1
  refine zT_ck (zin_nI (by omega) (by omega)) (zT_bd (zT_w (X6_remove h.r13 w1 ha) ?_))
  rintro M2 ⟨w2, g2⟩
  have g2c : zag cgA M1 M2 := g2.mo (fun b k e => by unfold zblk at e; unfold cgA; omega)
  obtain ⟨m0, m1, mr, ms, ml⟩ := h.mid nt g2c
  have h40 : M2 270 40 = nI n := by rw [m0]; exact h.n40
  refine zT_some (zT_bd (zT_eq (zHy h.md hn h40 ha) (zT_if0 (by decide) (zT_bd (zT_w (X12_copies h.md) ?_)))))
  rintro M3 ⟨e3, g3⟩
  have e3b : M3 271 = rowF M := e3.trans mr
  refine zT_ck (zin_nI (by omega) (by omega)) (zT_bd (zT_w (X12_goes h.md (by omega)) ?_))
  rintro M4 ⟨e4, g4⟩
  rw [e3b] at e4
  refine zT_bd (zT_w (h.did (T1 := T + 3000000) (S1 := S + 300) (by omega) (by omega) nt w2 g2c (z271.sr (g3.tr g4)) (by rw [e4]; exact eq60.rf) ((h.gd.goes ha).mo (by omega) (by omega))) ?_)
  rintro M5 ⟨e5, o5⟩
  refine zT_some ⟨?_, o5⟩
  show M3 271 (ztn (nI a)) = M1 (13 + 1) (ztn (nI a))
  rw [ztn_nI (by omega), e3b, fa]
theorem zJoin (h : zSt R M ru q l n T S u x) (hT : T + 3100000 < 2147483648) (hS : S + 400 < 2147483648) (x1 : Int32) : zT (f_X11_join R M 2 x1) (fun p => zT (f_X12_join R p.2 242 x1) (fun p1 => p1.1 = p.1 ∧ zOut R p1.2 (T + 3000000) (S + 300))) := by
  have o0 : zOut R M (T + 3000000) (S + 300) := h.out (by omega) (by omega)
  have hn := h.n10
  have hl := h.ll
  have m4 : M 13 4 = nI n := h.rw0.2.1
  have r24 : R 242 24 = 253 := h.md.at rfl (by decide)
  rcases nI_cases x1 n (by omega) with ⟨a, ha, rfl⟩ | hx1
  rotate_left
  · unfold f_X11_join f_X12_join
    rw [h.x2]
    exact zT_bd (zT_eq (hz_no h.rw0 hx1) (zT_if1 rfl (zT_some (zT_bd (zT_eq (zHn h.md hn h.n40 hx1) (zT_if1 rfl (zT_some ⟨rfl, o0⟩)))))))
  by_cases h2 : n < 2
  · unfold f_X11_join f_X12_join
    rw [h.x2, h.r45, m4]
    refine zT_bd (zT_eq (hz_yes h.rw0 ha) (zT_if0 (by decide) (zT_if0 (by rw [nI_lit 2]; exact nI_ge h2 (by omega)) (zT_some (zT_bd (zT_eq (zHy h.md hn h.n40 ha) (zT_if0 (by decide) (zT_if1 ?_ (zT_some ⟨rfl, o0⟩)))))))))
    show M 270 40 < 2
    rw [h.n40, nI_lit 2]
    exact nI_lt h2 (by omega)
  have c6 : M q 6 = ruS ru := h.cr.2.2.2.2.1
  -- both go on
  have go : ∀ (last : Int32) (to gone : Nat), to < n → gone < n → to < gone → (last = 0 ∧ a + 1 ≠ n ∧ to = a ∧ gone = a + 1 ∨ last = 1 ∧ a + 1 = n ∧ to = 0 ∧ gone = a) → zT (j_X11_join_59 R M 2 (nI a) last) (fun p => p.2 270 = M 270 ∧ p.2 253 = M 253 ∧ p.2 242 18 = M 242 18 ∧ zT (j_X12_join_46 R p.2 242 (nI a)) (fun p1 => p1.1 = p.1 ∧ zOut R p1.2 (T + 3000000) (S + 300))) := by
    intro last to gone hto hgone hlt hc
    unfold j_X11_join_59
    rw [h.x2, h.x3]
    refine zT_bd (zT_w h.note ?_)
    rintro M1 ⟨nt, w1, c1⟩
    have mer : zT (f_X6_merge R M1 13 (nI to) (nI gone)) (fun M2 => RW M2 13 (n - 1) (goesF gone (joinF to gone (rowF M))) ∧ zag (zblk 13) M1 M2) := X6_merge h.r13 w1 hto hgone (by omega)
    have cl : zT (j_X11_join_96 R M1 2 (nI to) 13 (nI to) (nI gone)) (fun p => p.2 270 = M 270 ∧ p.2 253 = M 253 ∧ p.2 242 18 = M 242 18 ∧ zT (j_X12_join_46 R p.2 242 (nI a)) (fun p1 => p1.1 = p.1 ∧ zOut R p1.2 (T + 3000000) (S + 300))) := by
      unfold j_X11_join_96
      rw [h.x2]
      refine zT_bd (zT_w mer ?_)
      rintro M2 ⟨w2, g2⟩
      refine zT_bd (zT_eq (X6_purseOf h.r13 w2 (by omega)) (zT_some ?_))
      have g2c : zag cgA M1 M2 := g2.mo (fun b k e => by unfold zblk at e; unfold cgA; omega)
      obtain ⟨m0, m1, mr, ms, ml⟩ := h.mid nt g2c
      have g2d : M2 253 = M 253 := by
        have hx := h.kp.2.1
        funext k
        rw [g2c 253 k (by unfold cgA zsk; omega), nt.2.2.2 253 k (by omega)]
      refine ⟨m0, g2d, ml.trans h.l18.symm, ?_⟩
      have jt : goesF gone (joinF to gone (rowF M)) to = joinF to gone (rowF M) to := by
        have := goesF_at (a := gone) (w := joinF to gone (rowF M)) (p := 0) (j := to) (by omega) (by omega)
        rw [if_pos hlt, show 10 * 0 + to = to by omega] at this
        exact this
      unfold j_X12_join_46
      refine zT_bd (zT_w (X12_copies h.md) ?_)
      rintro M3 ⟨e3, g3⟩
      have e3b : M3 271 = rowF M := e3.trans mr
      have f40 : M3 271 (ztn (40 : Int32)) = nI n := by rw [e3b]; exact h.gd.2.1
      rw [h.r46, f40, nI_sub1 (by omega)]
      have fin : zT (zbd (zloop zN (fun v => b_X12_join_93 R v.2 242 (nI to) (nI gone) v.1) ((0 : Int32), M3)) fun e22 => zck (zin (nI to) 60) <| zbd (f_X12_goes R e22 242 (nI gone)) fun M24 => zbd (f_X12_keeps R M24 242) fun M26 => some ((e22 271 (ztn (nI to))), M26)) (fun p1 => p1.1 = goesF gone (joinF to gone (rowF M)) to ∧ zOut R p1.2 (T + 3000000) (S + 300)) := by
        refine zT_bd (zT_w (X12_joins h.md (by omega) (by omega) (by omega)) ?_)
        rintro M4 ⟨e4, g4⟩
        rw [e3b] at e4
        refine zT_ck (zin_nI (by omega) (by omega)) (zT_bd (zT_w (X12_goes h.md (by omega)) ?_))
        rintro M5 ⟨e5, g5⟩
        rw [e4] at e5
        refine zT_bd (zT_w (h.did (T1 := T + 3000000) (S1 := S + 300) (by omega) (by omega) nt w2 g2c (z271.sr ((g3.tr g4).tr g5)) (by rw [e5]; exact eq60.rf) ((h.gd.join hto hgone (by omega)).mo (by omega) (by omega))) ?_)
        rintro M6 ⟨e6, o6⟩
        refine zT_some ⟨?_, o6⟩
        show M4 271 (ztn (nI to)) = _
        rw [ztn_nI (by omega), e4, jt]
      rcases hc with ⟨rfl, c1, rfl, rfl⟩ | ⟨rfl, c1, rfl, rfl⟩
      · have ne : ¬ nI to = nI (n - 1) := fun q => by have := nI_inj (by omega) (by omega) q; omega
        refine zT_if0 ne ?_
        unfold j_X12_join_68
        rw [h.r46, f40, nI_sub1 (by omega)]
        refine zT_if0 ne ?_
        rw [nI_1]
        exact fin
      · have ee : nI gone = nI (n - 1) := by rw [show n - 1 = gone by omega]
        refine zT_if1 ee ?_
        unfold j_X12_join_68
        rw [h.r46, f40, nI_sub1 (by omega)]
        exact zT_if1 ee fin
    rcases hc with ⟨rfl, c1, rfl, rfl⟩ | ⟨rfl, c1, rfl, rfl⟩
    · refine zT_if1 rfl ?_
      unfold j_X11_join_79
      rw [h.x2, nI_1]
      exact zT_if1 rfl cl
    · refine zT_if0 (by decide) ?_
      unfold j_X11_join_79
      rw [h.x2]
      exact zT_if0 (by decide) cl
  unfold f_X11_join
  rw [h.x2, m4, nI_sub1 (by omega)]
  refine zT_bd (zT_eq (hz_yes h.rw0 ha) (zT_if0 (by decide) (zT_if1 (by rw [nI_lit 2]; exact nI_le (by omega) (by omega)) ?_)))
  -- the reference, behind its first tests
  have rf : ∀ M2 : zM, M2 270 = M 270 → M2 253 = M 253 → M2 242 18 = M 242 18 → ∀ Q : Int32 × zM → Prop, (ruS ru = 0 ∨ a + 1 ≠ n → zT (j_X12_join_46 R M2 242 (nI a)) Q) → (ruS ru ≠ 0 → a + 1 = n → Q (-1, M2)) → zT (f_X12_join R M2 242 (nI a)) Q := by
    intro M2 q0 q1 q2 Q k1 k2
    unfold f_X12_join
    have f40 : M2 270 (ztn (40 : Int32)) = nI n := by rw [q0]; exact h.n40
    rw [h.r45, r24, f40, q2, h.l18, ztn_nI (by omega), q1, h.ms.2.1, nI_sub1 (by omega)]
    refine zT_bd (zT_eq (zHy h.md hn (by rw [q0]; exact h.n40) ha) (zT_if0 (by decide) (zT_if0 (by rw [nI_lit 2]; exact nI_nlt (by omega) (by omega)) (zT_ck (zin_nI hl (by omega)) ?_))))
    refine zT_if (fun e => k1 (Or.inl e)) (fun e => ?_)
    by_cases c : a + 1 = n
    · exact zT_if1 (by rw [show n - 1 = a by omega]) (zT_some (k2 e c))
    · exact zT_if0 (fun q => by have := nI_inj (by omega) (by omega) q; omega) (k1 (Or.inr c))
  by_cases c : a + 1 = n
  · refine zT_if1 (by rw [show n - 1 = a by omega]) ?_
    unfold j_X11_join_42
    rw [h.q8, c6]
    refine zT_if0 (by decide) (zT_if (fun e => ?_) (fun e => ?_))
    · refine zT_w (go 1 0 a (by omega) ha (by omega) (Or.inr ⟨rfl, c, rfl, rfl⟩)) ?_
      rintro ⟨y, M2⟩ ⟨q0, q1, q2, k⟩
      exact rf M2 q0 q1 q2 _ (fun _ => k) (fun e2 => absurd e e2)
    · exact zT_some (rf M rfl rfl rfl _ (fun e2 => by rcases e2 with e2 | e2; exact absurd e2 e; exact absurd c e2) (fun _ _ => ⟨rfl, o0⟩))
  · refine zT_if0 (fun q => by have := nI_inj (by omega) (by omega) q; omega) ?_
    unfold j_X11_join_42
    refine zT_if1 rfl ?_
    refine zT_w (go 0 a (a + 1) ha (by omega) (by omega) (Or.inl ⟨rfl, c, rfl, rfl⟩)) ?_
    rintro ⟨y, M2⟩ ⟨q0, q1, q2, k⟩
    exact rf M2 q0 q1 q2 _ (fun _ => k) (fun _ e2 => absurd e2 c)
end OPS

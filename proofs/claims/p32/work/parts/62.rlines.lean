/-! READ, on the reference's side: lines -/
theorem wsR.lt {P : Nat → Int32} {t : Nat} {w : Option tF} {M : zM} (h : wsR P t w M) : ∀ e, w = some e → e.2 < t := by
  rintro e rfl
  exact h.2.2.2
theorem kd26 : kdL.all (fun a => decide (¬ a - 26 < 0 ∧ a - 26 ≤ 2) == decide (a = 26 ∨ a = 27 ∨ a = 28)) = true := by decide +kernel
section REF
variable {R : zR} {M M1 : zM} {L L1 : zL} {K V P : Nat → Int32} {E : Nat → Nat → Bool} {c t l : Nat} {f : tF} {x : zTx}
theorem reS.rule {M2 : zM} {ru : zRu} {w : Option tF} (h : reS l K V P c M L t (x.1, x.2.1, w) M1 L1) (g : zag (fun a k => 253 ≤ a ∧ a ≤ 257 ∧ k = l) M1 M2) (hu : reU l ru M2) (hok : xOk K c (x.1, ru, w)) (hp : ruP ru = ruP x.2.1) (hq : ruQ ru = ruQ x.2.1) : reS l K V P c M L t (x.1, ru, w) M2 L1 := by
  obtain ⟨a1, a2, a3, a4, a5, a6, a7, a8, a9, a10⟩ := h
  have gO : ∀ a k, a < 253 ∨ 257 < a → M2 a k = M1 a k := fun a k h => g a k (by omega)
  have hc : reC l t ru M2 := by
    obtain ⟨fc, pc, b1, b2, b3, b4, b5, b6, b7, b8⟩ := a7.eq (M2 := M2) ⟨gO _ _ (by omega), gO _ _ (by omega)⟩ (fun a j q1 q2 => gO a j (by omega)) (Nat.le_refl _)
    exact ⟨fc, pc, b1, b2, b3, b4, b5, b6, by rw [hp]; exact b7, by rw [hq]; exact b8⟩
  exact ⟨⟨(gO _ _ (by omega)).trans a1.1, (gO _ _ (by omega)).trans a1.2⟩, a2, hok, ⟨(gO _ _ (by omega)).trans a4.1, (gO _ _ (by omega)).trans a4.2⟩, a5.eq ⟨gO _ _ (by omega), gO _ _ (by omega)⟩ (fun j => gO _ j (by omega)), hu, hc, a8.eq (gO _ _ (by omega)) (gO _ _ (by omega)) (Nat.le_refl _), a9.tr (g.mo (fun a k q => by unfold reA; omega)), a10⟩
theorem reD.up (h : reD l P M L f M1 L1) {a : Nat} (ha : 253 ≤ a ∧ a ≤ 257) (v : Int32) : reD l P M L f (zup M1 a l v) L1 := ⟨h.1.eq (zup_a (by omega)) (zup_a (by omega)), h.2.1.up (by unfold reA; omega), h.2.2⟩
/-- street, turns -/
theorem X12_street (hR : zMd R) (hk : tkR M K V P c) (hK : endS K c) (hl : l < 2) (h : reS l K V P c M L t x M1 L1) (c21 : K t = 21) : zT (zbd (f_X12_goesOn R M1 242) fun M20 => zck (zin (M20 242 19) 2) <| zlt (zup M20 (R 242 24) (ztn (M20 242 19)) (1 : Int32)) fun M23 => zbd (f_X12_must R M23 242 (4 : Int32)) fun M24 => some (M24, L1)) (fun p => reO l K V P c M L (telS K V E t x) p.1 p.2) := by
  have h19 := h.2.2.2.1.2
  refine zT_bd (zT_w (Q := fun M2 => M2 242 19 = nI l ∧ ((∃ f, goS t = .inl f ∧ reD l P M L f M2 L1) ∨ (goS t = .inr (t + 1) ∧ reS l K V P c M L (t + 1) x M2 L1))) ?_ ?_)
  · obtain ⟨p, e1, h1⟩ := h.go hR hk hK (by rw [c21]; decide)
    obtain ⟨p', e2, h2⟩ := X12_go hR (h.tk hk) h.1 h.2.1
    have : p = p' := Option.some.inj (e1.symm.trans e2)
    subst this
    exact ⟨p, e1, by rw [h2.2 242 19 (by unfold tgA; omega)]; exact h19, h1⟩
  rintro M2 ⟨e19, hh⟩
  rw [e19, hR.at (k := 24) (b := 253) rfl (by decide), ztn_nI (by omega)]
  refine zT_ck (zin_nI (by omega) (by omega)) (zT_lt ?_)
  rcases hh with ⟨f, e, hd⟩ | ⟨e, hs⟩
  · have hd2 := hd.up (a := 253) (by omega) 1
    exact zT_bd (zT_eq (X12_mustD hd2.1 4) (zT_some (Or.inl ⟨f, by rw [telS_21 c21, sB_l e], hd2⟩)))
  · obtain ⟨u1, u2, u3, u4, u5⟩ := hs.2.2.2.2.2.1
    obtain ⟨o1, o2, o3, o4, o5, o6⟩ := hs.2.2.1
    have hs2 : reS l K V P c M L (t + 1) (x.1, ((1, x.2.1.1.2), x.2.1.2), x.2.2) (zup M2 253 l 1) L1 := hs.rule (zag.rf.up (by omega)) ⟨zup_same, (zup_a (by omega)).trans u2, (zup_a (by omega)).trans u3, (zup_a (by omega)).trans u4, (zup_a (by omega)).trans u5⟩ ⟨o1, o2, o3, o4, o5, o6⟩ rfl rfl
    refine zT_bd (zT_w (hs2.must hR hk hK 4 (by decide)) ?_)
    rintro M3 (⟨f, e2, hd⟩ | ⟨t2, e2, hs3⟩)
    · exact zT_some (Or.inl ⟨f, by rw [telS_21 c21, sB_r e, sB_l e2], hd⟩)
    · exact zT_some (Or.inr ⟨_, by rw [telS_21 c21, sB_r e, sB_r e2], hs3⟩)
theorem X12_go19 (hR : zMd R) (hk : tkR M K V P c) (hK : endS K c) (h : reS l K V P c M L t x M1 L1) (h0 : K t ≠ 0) : zT (f_X12_goesOn R M1 242) (fun M2 => (M2 242 19 = nI l ∧ M2 251 l = nI x.1.length ∧ M2 242 31 = M1 242 31) ∧ ((∃ f, goS t = .inl f ∧ reD l P M L f M2 L1) ∨ (goS t = .inr (t + 1) ∧ reS l K V P c M L (t + 1) x M2 L1))) := by
  obtain ⟨p, e1, h1⟩ := h.go hR hk hK h0
  obtain ⟨p', e2, h2⟩ := X12_go hR (h.tk hk) h.1 h.2.1
  have : p = p' := Option.some.inj (e1.symm.trans e2)
  subst this
  exact ⟨p, e1, ⟨by rw [h2.2 242 19 (by unfold tgA; omega)]; exact h.2.2.2.1.2, by rw [h2.2 251 l (by unfold tgA; omega)]; exact h.2.2.2.2.1.1, h2.2 242 31 (by unfold tgA; omega)⟩, h1⟩
theorem X12_turns (hR : zMd R) (hk : tkR M K V P c) (hK : endS K c) (hl : l < 2) (h : reS l K V P c M L t x M1 L1) (c22 : K t = 22) : zT (zbd (f_X12_goesOn R M1 242) fun M20 => zck (zin (M20 242 19) 2) <| zlt (zup M20 (R 242 25) (ztn (M20 242 19)) (1 : Int32)) fun M23 => zbd (f_X12_must R M23 242 (4 : Int32)) fun M24 => some (M24, L1)) (fun p => reO l K V P c M L (telS K V E t x) p.1 p.2) := by
  refine zT_bd (zT_w (X12_go19 hR hk hK h (by rw [c22]; decide)) ?_)
  rintro M2 ⟨⟨e19, _, _⟩, hh⟩
  rw [e19, hR.at (k := 25) (b := 254) rfl (by decide), ztn_nI (by omega)]
  refine zT_ck (zin_nI (by omega) (by omega)) (zT_lt ?_)
  rcases hh with ⟨f, e, hd⟩ | ⟨e, hs⟩
  · have hd2 := hd.up (a := 254) (by omega) 1
    exact zT_bd (zT_eq (X12_mustD hd2.1 4) (zT_some (Or.inl ⟨f, by rw [telS_22 c22, sB_l e], hd2⟩)))
  · obtain ⟨u1, u2, u3, u4, u5⟩ := hs.2.2.2.2.2.1
    obtain ⟨o1, o2, o3, o4, o5, o6⟩ := hs.2.2.1
    have hs2 : reS l K V P c M L (t + 1) (x.1, ((x.2.1.1.1, 1, x.2.1.1.2.2), x.2.1.2), x.2.2) (zup M2 254 l 1) L1 := hs.rule (zag.rf.up (by omega)) ⟨(zup_a (by omega)).trans u1, zup_same, (zup_a (by omega)).trans u3, (zup_a (by omega)).trans u4, (zup_a (by omega)).trans u5⟩ ⟨o1, o2, o3, o4, o5, o6⟩ rfl rfl
    refine zT_bd (zT_w (hs2.must hR hk hK 4 (by decide)) ?_)
    rintro M3 (⟨f, e2, hd⟩ | ⟨t2, e2, hs3⟩)
    · exact zT_some (Or.inl ⟨f, by rw [telS_22 c22, sB_r e, sB_l e2], hd⟩)
    · exact zT_some (Or.inr ⟨_, by rw [telS_22 c22, sB_r e, sB_r e2], hs3⟩)
/-- the seed -/
theorem X12_seed (hR : zMd R) (hk : tkR M K V P c) (hK : endS K c) (hP : ∀ i j, i < j → j ≤ c → P i < P j) (hV : valS K V c) (hV9 : ∀ i, i ≤ c → K i = 2 → V i ≤ 9999) (hl : l < 2) (h : reS l K V P c M L t x M1 L1) (c29 : K t = 29) : zT (zbd (f_X12_goesOn R M1 242) fun M68 => zbd2 (f_X12_bounded R M68 242 (0 : Int32) (9999 : Int32)) fun r70 M71 => zck (zin (M68 242 19) 2) <| zlt (zup M71 (R 242 28) (ztn (M68 242 19)) r70) fun M74 => zbd (f_X12_must R M74 242 (4 : Int32)) fun M75 => some (M75, L1)) (fun p => reO l K V P c M L (telS K V E t x) p.1 p.2) := by
  refine zT_bd (zT_w (X12_go19 hR hk hK h (by rw [c29]; decide)) ?_)
  rintro M2 ⟨⟨e19, _, _⟩, hh⟩
  rw [e19, hR.at (k := 28) (b := 257) rfl (by decide), ztn_nI (by omega)]
  rcases hh with ⟨f, e, hd⟩ | ⟨e, hs⟩
  · have hd2 := hd.up (a := 257) (by omega) 0
    exact zT_bd2 (zT_eq (X12_boundedD hd.1 0 9999) (zT_ck (zin_nI (by omega) (by omega)) (zT_lt (zT_bd (zT_eq (X12_mustD hd2.1 4) (zT_some (Or.inl ⟨f, by rw [telS_29 c29, sB_l e], hd2⟩)))))))
  refine zT_bd2 (zT_w (hs.bounded hR hk hK hP (fun e he => hs.2.2.2.2.2.2.2.1.lt e he) 0 9999) ?_)
  rintro ⟨r, M3⟩ (⟨f, e2, hd⟩ | ⟨e2, er, hs3⟩)
  · have hd2 := hd.up (a := 257) (by omega) r
    exact zT_ck (zin_nI (by omega) (by omega)) (zT_lt (zT_bd (zT_eq (X12_mustD hd2.1 4) (zT_some (Or.inl ⟨f, by rw [telS_29 c29, sB_r e, sB_l e2], hd2⟩)))))
  obtain ⟨_, b2, k2⟩ := mustS_ok (by decide) hK hs.2.1 e2
  obtain rfl : r = V (t + 1) := er
  rw [if_neg (fun z => by
    rcases z with z | z
    · exact absurd (Int32.lt_of_lt_of_le z (hV _ hs.2.1 k2)) (Int32.lt_irrefl)
    · exact absurd (Int32.lt_of_lt_of_le z (hV9 _ hs.2.1 k2)) (Int32.lt_irrefl))] at hs3
  obtain ⟨u1, u2, u3, u4, u5⟩ := hs3.2.2.2.2.2.1
  obtain ⟨o1, o2, o3, o4, o5, o6⟩ := hs3.2.2.1
  have hs4 : reS l K V P c M L (t + 1 + 1) (x.1, ((x.2.1.1.1, x.2.1.1.2.1, x.2.1.1.2.2.1, x.2.1.1.2.2.2.1, V (t + 1)), x.2.1.2), x.2.2) (zup M3 257 l (V (t + 1))) L1 := hs3.rule (zag.rf.up (by omega)) ⟨(zup_a (by omega)).trans u1, (zup_a (by omega)).trans u2, (zup_a (by omega)).trans u3, (zup_a (by omega)).trans u4, zup_same⟩ ⟨o1, o2, o3, o4, o5, o6⟩ rfl rfl
  refine zT_ck (zin_nI (by omega) (by omega)) (zT_lt (zT_bd (zT_w (hs4.must hR hk hK 4 (by decide)) ?_)))
  rintro M5 (⟨f, e3, hd⟩ | ⟨t2, e3, hs5⟩)
  · exact zT_some (Or.inl ⟨f, by rw [telS_29 c29, sB_r e, sB_r e2, sB_l e3], hd⟩)
  · exact zT_some (Or.inr ⟨_, by rw [telS_29 c29, sB_r e, sB_r e2, sB_r e3], hs5⟩)
/-- how the pot is shared -/
theorem X12_shared (hR : zMd R) (hk : tkR M K V P c) (hkd : ∀ i, i ≤ c → K i ∈ kdL) (hK : endS K c) (hP : ∀ i j, i < j → j ≤ c → P i < P j) (hl : l < 2) (h : reS l K V P c M L t x M1 L1) (c25 : K t = 25) : zT (zbd (f_X12_goesOn R M1 242) fun M42 => if (M42 242 13) ≤ 0 then (zck (zin (M42 242 11) 403) <| j_X12_tell_193 R M42 L1 242 ((M42 (R 242 5) (ztn (M42 242 11))) - (26 : Int32))) else j_X12_tell_193 R M42 L1 242 (-1 : Int32)) (fun p => reO l K V P c M L (telS K V E t x) p.1 p.2) := by
  have c4 := hk.1
  refine zT_bd (zT_w (X12_go19 hR hk hK h (by rw [c25]; decide)) ?_)
  rintro M2 ⟨⟨e19, _, _⟩, hh⟩
  rcases hh with ⟨f, e, hd⟩ | ⟨e, hs⟩
  · refine zT_if0 hd.1.ne.2.1 ?_
    unfold j_X12_tell_193 j_X12_tell_203 j_X12_tell_208
    exact zT_if1 (by decide) (zT_bd (zT_eq (X12_failD hd.1 1) (zT_if0 hd.1.ne.2.1 (zT_some (Or.inl ⟨f, by rw [telS_25 c25, sB_l e], hd⟩)))))
  have al := hs.1
  have t1c := hs.2.1
  rw [al.1, hR.at (k := 5) (b := 245) rfl (by decide), ztn_nI (by omega), ((hs.tk hk).2 _ t1c).1]
  refine zT_if1 (by rw [al.2]; decide) (zT_ck (zin_nI (by omega) (by omega)) ?_)
  have h26 := List.all_eq_true.1 kd26 (K (t + 1)) (hkd _ t1c)
  simp only [beq_iff_eq, decide_eq_decide] at h26
  unfold j_X12_tell_193
  have bad : ¬ (K (t + 1) = 26 ∨ K (t + 1) = 27 ∨ K (t + 1) = 28) → zT (j_X12_tell_203 R M2 L1 242 (K (t + 1) - 26)) (fun p => reO l K V P c M L (telS K V E t x) p.1 p.2) := fun hn => by
    unfold j_X12_tell_203 j_X12_tell_208
    refine zT_bd (zT_w (hs.fail hR hk (k := 1) (Or.inl rfl)) ?_)
    intro M3 hd
    exact zT_if0 hd.1.ne.2.1 (zT_some (Or.inl ⟨_, by rw [telS_25 c25, sB_r e, if_neg hn], hd⟩))
  by_cases n0 : K (t + 1) - 26 < 0
  · exact zT_if1 n0 (bad (fun z => (h26.2 z).1 n0))
  refine zT_if0 n0 ?_
  by_cases n2 : K (t + 1) - 26 ≤ 2
  case neg => exact zT_if0 n2 (bad (fun z => n2 (h26.2 z).2))
  refine zT_if1 n2 ?_
  have cc := h26.1 ⟨n0, n2⟩
  have hT : telS K V E t x = sB (goS (t + 1)) fun t2 => sB (mustS K 2 t2) fun t3 => sB (mustS K 4 t3) fun t4 => .inr (t4, (x.1, ((x.2.1.1.1, x.2.1.1.2.1, K (t + 1) - 26, V t2, x.2.1.1.2.2.2.2), x.2.1.2), if V t2 < 1 ∨ 30 < V t2 then laterS x.2.2 5 t2 else x.2.2)) := by
    rw [telS_25 c25, sB_r e, if_pos cc]
  rw [hT]
  have k0 : K (t + 1) ≠ 0 := by rcases cc with q | q | q <;> rw [q] <;> decide
  unfold j_X12_tell_208
  refine zT_if1 (by rw [al.2]; decide) (zT_bd (zT_w (X12_go19 hR hk hK hs k0) ?_))
  rintro M3 ⟨⟨f19, _, _⟩, hh⟩
  have g19 : zup M3 255 l (K (t + 1) - 26) 242 19 = nI l := by rw [zup_a (by omega)]; exact f19
  rw [f19, hR.at (k := 26) (b := 255) rfl (by decide), hR.at (k := 27) (b := 256) rfl (by decide), ztn_nI (by omega)]
  refine zT_ck (zin_nI (by omega) (by omega)) (zT_lt ?_)
  rw [g19, ztn_nI (by omega)]
  rcases hh with ⟨f, e2, hd⟩ | ⟨e2, hs3⟩
  · have hd2 := hd.up (a := 255) (by omega) (K (t + 1) - 26)
    have hd3 := hd2.up (a := 256) (by omega) 1
    exact zT_bd2 (zT_eq (X12_boundedD hd2.1 1 30) (zT_ck (zin_nI (by omega) (by omega)) (zT_lt (zT_bd (zT_eq (X12_mustD hd3.1 4) (zT_some (Or.inl ⟨f, by rw [sB_l e2], hd3⟩)))))))
  obtain ⟨u1, u2, u3, u4, u5⟩ := hs3.2.2.2.2.2.1
  obtain ⟨o1, o2, o3, o4, o5, o6⟩ := hs3.2.2.1
  have oH : K (t + 1) - 26 = 0 ∨ K (t + 1) - 26 = 1 ∨ K (t + 1) - 26 = 2 := by rcases cc with q | q | q <;> rw [q] <;> decide
  have hs4 : reS l K V P c M L (t + 1 + 1) (x.1, ((x.2.1.1.1, x.2.1.1.2.1, K (t + 1) - 26, x.2.1.1.2.2.2.1, x.2.1.1.2.2.2.2), x.2.1.2), x.2.2) (zup M3 255 l (K (t + 1) - 26)) L1 := hs3.rule (zag.rf.up (by omega)) ⟨(zup_a (by omega)).trans u1, (zup_a (by omega)).trans u2, zup_same, (zup_a (by omega)).trans u4, (zup_a (by omega)).trans u5⟩ ⟨o1, o2, o3, o4, oH, o6⟩ rfl rfl
  have h256 : ∀ M5 : zM, True := fun _ => trivial
  refine zT_bd2 (zT_w (hs4.bounded hR hk hK hP (fun e he => hs4.2.2.2.2.2.2.2.1.lt e he) 1 30) ?_)
  rintro ⟨r, M5⟩ (⟨f, e3, hd⟩ | ⟨e3, er, hs5⟩)
  · have hd2 := hd.up (a := 256) (by omega) r
    exact zT_ck (zin_nI (by omega) (by omega)) (zT_lt (zT_bd (zT_eq (X12_mustD hd2.1 4) (zT_some (Or.inl ⟨f, by rw [sB_r e2, sB_l e3], hd2⟩)))))
  obtain rfl : r = V (t + 1 + 1) := er
  dsimp only at hs5
  obtain ⟨u1, u2, u3, u4, u5⟩ := hs5.2.2.2.2.2.1
  obtain ⟨o1, o2, o3, o4, o5, o6⟩ := hs5.2.2.1
  have oE : (if V (t + 1 + 1) < 1 ∨ 30 < V (t + 1 + 1) then laterS x.2.2 5 (t + 1 + 1) else x.2.2) = none → 0 < V (t + 1 + 1) := fun z => by
    by_cases q : V (t + 1 + 1) < 1 ∨ 30 < V (t + 1 + 1)
    · rw [if_pos q] at z
      exact absurd z laterS_n
    · have : ¬ V (t + 1 + 1) < 1 := fun w => q (Or.inl w)
      rw [Int32.not_lt] at this
      exact Int32.lt_of_lt_of_le (by decide) this
  have hs6 : reS l K V P c M L (t + 1 + 1 + 1) (x.1, ((x.2.1.1.1, x.2.1.1.2.1, K (t + 1) - 26, V (t + 1 + 1), x.2.1.1.2.2.2.2), x.2.1.2), if V (t + 1 + 1) < 1 ∨ 30 < V (t + 1 + 1) then laterS x.2.2 5 (t + 1 + 1) else x.2.2) (zup M5 256 l (V (t + 1 + 1))) L1 := reS.rule (x := (x.1, ((x.2.1.1.1, x.2.1.1.2.1, K (t + 1) - 26, x.2.1.1.2.2.2.1, x.2.1.1.2.2.2.2), x.2.1.2), x.2.2)) hs5 (zag.rf.up (by omega)) ⟨(zup_a (by omega)).trans u1, (zup_a (by omega)).trans u2, (zup_a (by omega)).trans u3, zup_same, (zup_a (by omega)).trans u5⟩ ⟨o1, o2, o3, o4, oH, oE⟩ rfl rfl
  refine zT_ck (zin_nI (by omega) (by omega)) (zT_lt (zT_bd (zT_w (hs6.must hR hk hK 4 (by decide)) ?_)))
  rintro M6 (⟨f, e4, hd⟩ | ⟨t2, e4, hs7⟩)
  · exact zT_some (Or.inl ⟨f, by rw [sB_r e2, sB_r e3, sB_l e4], hd⟩)
  · exact zT_some (Or.inr ⟨_, by rw [sB_r e2, sB_r e3, sB_r e4], hs7⟩)
/-- a law's line -/
theorem X12_lawD (hR : zMd R) (hl : l < 2) {k0 b : Nat} (h : FR P f M) (h31 : M 242 31 = nI b) (hb : 130 * l ≤ b ∧ b ≤ 130 * l + 104) : zT (f_X12_tellLaw R M 242 (nI k0)) (fun M1 => FR P f M1 ∧ zag (lxA b (420 * l) l k0) M M1) := by
  unfold f_X12_tellLaw
  refine zT_bd (zT_eq (X12_mustD h 5) ?_)
  rw [h31]
  have hQ : rlQ R P b (420 * l) l k0 400 M (.inl f) (.inr M) := rlD.q hR hl ⟨h, zag.rf, b, h31, Nat.le_refl _, hb.2⟩
  refine zT_w (Q := rlR P b (420 * l) l k0 400 M (.inl f)) ?_ ?_
  · refine zT_bd (zT_loop (Q := rlQ R P b (420 * l) l k0 400 M (.inl f)) (fun _ v => v.2 = M) 0 rfl (by omega) ?_)
    rintro m ⟨x3, M3⟩ h3
    obtain rfl : M3 = M := h3
    unfold b_X12_tellLaw_12
    exact zT_if0 h.ne.1 (zT_some hQ)
  · rintro M4 ⟨g, hh⟩
    rcases hh with ⟨f1, e1, h1⟩ | ⟨r, e1, _⟩
    · cases e1
      exact ⟨h1, g⟩
    · cases e1
end REF

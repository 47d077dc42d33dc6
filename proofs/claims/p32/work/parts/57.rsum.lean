/-! READ, on the reference's side: an E -/
def exA (p0 B : Nat) : Nat → Nat → Prop := fun b k => ((b = 265 ∨ b = 266) ∧ p0 ≤ k ∧ k < B + 420) ∨ b = 267 ∨ (b = 242 ∧ (k = 11 ∨ k = 12 ∨ k = 13 ∨ k = 14 ∨ k = 37 ∨ k = 41))
def exI (p0 B c t0 : Nat) (M : zM) (t op : Nat) (stk : List Int32) (out : zEx) (M1 : zM) : Prop := AR t M1 ∧ M1 242 41 = nI stk.length ∧ M1 242 12 = nI op ∧ zStk M1 267 stk ∧ M1 242 37 = nI (p0 + out.length) ∧ zCd M1 p0 out ∧ zag (exA p0 B) M M1 ∧ pureS c t0 t op stk out
def exL (K V : Nat → Int32) (p0 B c t0 : Nat) (M : zM) (res : tF ⊕ (Nat × zEx)) (due : Bool) (cond : Nat → Nat → Prop) (t1 : Nat) (M1 : zM) : Prop := ∃ (t op : Nat) (stk : List Int32) (out : zEx), t1 ≤ t ∧ exI p0 B c t0 M t op stk out M1 ∧ cond t op ∧ sumS K V (401 - t) t op stk out due = res
def exD (P : Nat → Int32) (p0 B : Nat) (M : zM) (res : tF ⊕ (Nat × zEx)) (M1 : zM) : Prop := ∃ f, FR P f M1 ∧ zag (exA p0 B) M M1 ∧ res = .inl f
def exW (p0 B : Nat) (M1 : zM) : Prop := ∃ w p, w ≤ 21 ∧ M1 242 41 = nI w ∧ M1 242 37 = nI p ∧ p0 ≤ p ∧ p + w ≤ B + 420
section REF
variable {R : zR} {M M1 : zM} {K V P : Nat → Int32} {c t t0 p0 B : Nat} {f : tF} {op : Nat} {stk : List Int32} {out : zEx} {res : tF ⊕ (Nat × zEx)}
theorem exA_tk (h : zag (exA p0 B) M M1) (hk : tkR M K V P c) : tkR M1 K V P c := hk.eq (fun b i q1 q2 => h b i (by unfold exA; omega))
theorem tgA_ex (h : zag tgA M M1) : zag (exA p0 B) M M1 := h.mo (fun b j q => by unfold tgA at q; unfold exA; omega)
theorem exI.b (hB : p0 ≤ B + t0) (h4 : c ≤ 400) (h : exI p0 B c t0 M t op stk out M1) : p0 + out.length + opsN stk ≤ B + 400 ∧ stk.length ≤ 20 ∧ stk.length ≤ opsN stk + 6 ∧ t ≤ c := by
  obtain ⟨_, _, _, _, _, _, _, hP⟩ := h
  have a := hP.len
  have b := wfS_n stk op hP.2.2.1
  obtain ⟨p1, p2, p3, p4⟩ := hP
  exact ⟨by omega, a.1, by omega, p1⟩
/-- one ( -/
theorem X12_open (hR : zMd R) (hk : tkR M K V P c) (hK : endS K c) (hB : p0 ≤ B + t0) (x1 : Int32) {M1 : zM} (h : exI p0 B c t0 M t op stk out M1) (hr : sumS K V (401 - t) t op stk out true = res) : zT (b_X12_expression_23 R M1 242 x1) (Sum.elim (fun v => exL K V p0 B c t0 M res true (fun _ _ => True) (t + 1) v ∨ exD P p0 B M res v) (fun e => exL K V p0 B c t0 M res true (fun t _ => ¬ K t = 6) t e ∨ exD P p0 B M res e)) := by
  have hb := h.b hB hk.1
  have c4 := hk.1
  have h0 := h
  obtain ⟨h1, h2, h3, h4, h5, h6, h7, p1, p2, p3, p4⟩ := h
  have hk1 := exA_tk h7 hk
  unfold b_X12_expression_23
  refine zT_bd (zT_eq (X12_is hR hk1 h1 p1 6) ?_)
  by_cases c6 : K t = 6
  case neg =>
    rw [if_neg c6]
    exact zT_if1 rfl (zT_some (Or.inl ⟨t, op, stk, out, Nat.le_refl _, h0, c6, hr⟩))
  rw [if_pos c6]
  refine zT_if0 (by decide) ?_
  rw [show 401 - t = (400 - t) + 1 by omega] at hr
  have hsp : sumS K V ((400 - t) + 1) t op stk out true = if op = 6 then .inl (2, t) else sB (goS t) fun t1 => sumS K V (400 - t) t1 (op + 1) (6 :: stk) out true := by
    show (if K t = 6 then _ else _) = _
    rw [if_pos c6]
  rw [hsp] at hr
  have tail : ∀ (M2 : zM), zag (exA p0 B) M M2 → M2 242 41 = nI stk.length → zT (zck (zin (M2 242 41) 64) (zlt (zup M2 (R 242 40) (ztn (M2 242 41)) 6) fun M12 => zlt (zup M12 242 41 ((M12 242 41) + 1)) fun M13 => (some (Sum.inl M13) : Option (zM ⊕ zM)))) (fun r => ∃ M3, r = .inl M3 ∧ M3 242 41 = nI (stk.length + 1) ∧ M3 267 stk.length = 6 ∧ (∀ i, i ≠ stk.length → M3 267 i = M2 267 i) ∧ zag (fun b k => b = 267 ∨ (b = 242 ∧ k = 41)) M2 M3) := fun M2 g2 e41 => by
    rw [hR.at (k := 40) (b := 267) rfl (by decide), e41, ztn_nI (by omega)]
    have e2 : zup M2 267 stk.length 6 242 41 = nI stk.length := by rw [zup_a (by omega)]; exact e41
    refine zT_ck (zin_nI (by omega) (by omega)) (zT_lt ?_)
    rw [e2, nI_1]
    exact zT_lt (zT_some ⟨_, rfl, zup_same, by rw [zup_a (by omega), zup_same], fun i hi => by rw [zup_a (by omega), zup_k hi], (zag.rf.up (by omega)).up (by omega)⟩)
  have up12 : zag (exA p0 B) M (zup M1 242 12 (nI (op + 1))) := h7.up (by unfold exA; omega)
  have hk2 := exA_tk up12 hk
  by_cases c7 : op = 6
  · rw [if_pos c7] at hr
    refine zT_if1 (by rw [h3, c7]; rfl) (zT_bd (zT_w (X12_fail hR hk1 h1 p1 (k := 2) (Or.inr rfl)) ?_))
    rintro M2 ⟨f2, g2⟩
    unfold j_X12_expression_46
    have g02 : zag (exA p0 B) M M2 := h7.tr (g2.mo (fun b j q => by unfold exA; omega))
    refine zT_lt (zT_bd (zT_w (X12_goD (P := P) (f := (2, t)) (f2.eq (zup_k (by omega)) (zup_k (by omega)))) ?_))
    rintro M3 ⟨f3, g3⟩
    have g03 : zag (exA p0 B) M M3 := (g02.up (k := 12) (by unfold exA; omega)).tr (g3.mo (fun b j q => by unfold exA; omega))
    have e41 : M3 242 41 = nI stk.length := by rw [g3 242 41 (by omega), zup_k (by omega), g2 242 41 (by omega)]; exact h2
    refine zT_w (tail M3 g03 e41) ?_
    rintro r ⟨M4, rfl, _, _, _, g4⟩
    exact Or.inr ⟨(2, t), f3.eq (g4 242 13 (by omega)) (g4 242 14 (by omega)), g03.tr (g4.mo (fun b j q => by unfold exA; omega)), hr.symm⟩
  · rw [if_neg c7] at hr
    refine zT_if0 (fun z => c7 (nI_inj (by omega) (by omega) ((h3.symm.trans z).trans (nI_lit 6)))) ?_
    unfold j_X12_expression_46
    rw [h3, nI_1]
    refine zT_lt (zT_bd (zT_w (X12_go hR hk2 (t := t) ⟨by rw [zup_k (by omega)]; exact h1.1, by rw [zup_k (by omega)]; exact h1.2⟩ p1) ?_))
    rintro M3 ⟨hm, g3⟩
    have g03 : zag (exA p0 B) M M3 := up12.tr (tgA_ex g3)
    have e41 : M3 242 41 = nI stk.length := by rw [g3 242 41 (by unfold tgA; omega), zup_k (by omega)]; exact h2
    refine zT_w (tail M3 g03 e41) ?_
    rintro r ⟨M4, rfl, v41, v6, vO, g4⟩
    have g04 : zag (exA p0 B) M M4 := g03.tr (g4.mo (fun b j q => by unfold exA; omega))
    cases hh : goS t with
    | inl f =>
      rw [hh] at hm
      rw [sB_l hh] at hr
      exact Or.inr ⟨f, hm.eq (g4 242 13 (by omega)) (g4 242 14 (by omega)), g04, hr.symm⟩
    | inr t1 =>
      rw [hh] at hm
      rw [sB_r hh] at hr
      obtain ⟨rfl, b1⟩ := goS_ok hK p1 (by rw [c6]; decide) hh
      refine Or.inl ⟨t + 1, op + 1, 6 :: stk, out, Nat.le_refl _, ⟨⟨by rw [g4 242 11 (by omega)]; exact hm.1, by rw [g4 242 13 (by omega)]; exact hm.2⟩, v41, ?_, ⟨v6, zStk.eq _ (fun j hj => ?_) h4⟩, ?_, ?_, g04, b1, by omega, ?_, ?_⟩, trivial, ?_⟩
      · rw [g4 242 12 (by omega), g3 242 12 (by unfold tgA; omega), zup_same]
      · rw [vO j (by omega), g3 267 j (by unfold tgA; omega), zup_a (by omega)]
      · rw [g4 242 37 (by omega), g3 242 37 (by unfold tgA; omega), zup_k (by omega)]
        exact h5
      · exact zCd.eq (fun j => by rw [g4 265 j (by omega), g3 265 j (by unfold tgA; omega), zup_a (by omega)]) (fun j => by rw [g4 266 j (by omega), g3 266 j (by unfold tgA; omega), zup_a (by omega)]) _ _ h6
      · unfold wfS
        rw [if_pos rfl, Nat.add_sub_cancel]
        exact ⟨by omega, p3⟩
      · rw [opsN_c, if_pos rfl]
        omega
      · rw [show 401 - (t + 1) = 400 - t by omega]
        exact hr
theorem exLoop {b : zM → Option (zM ⊕ zM)} {due : Bool} {Q : zM → Prop} {D : zM → Prop} {t1 : Nat} {M1 : zM} (hs : ∀ (t op : Nat) (stk : List Int32) (out : zEx) (M2 : zM), t1 ≤ t → exI p0 B c t0 M t op stk out M2 → sumS K V (401 - t) t op stk out due = res → zT (b M2) (Sum.elim (fun v => exL K V p0 B c t0 M res due (fun _ _ => True) (t + 1) v ∨ D v) Q)) (hd : ∀ M2, D M2 → zT (b M2) (Sum.elim (fun _ => False) Q)) (c4 : c ≤ 400) (h : exL K V p0 B c t0 M res due (fun _ _ => True) t1 M1 ∨ D M1) : zT (zloop zN b M1) Q := by
  have main : ∀ (k : Nat), ((∃ (t op : Nat) (stk : List Int32) (out : zEx), k = 402 - t ∧ t1 ≤ t ∧ exI p0 B c t0 M t op stk out M1 ∧ sumS K V (401 - t) t op stk out due = res) ∨ (k = 0 ∧ D M1)) → k < 1000000 → zT (zloop zN b M1) Q := fun k hk hk2 => by
    refine zT_loop (fun m v => (∃ (t op : Nat) (stk : List Int32) (out : zEx), m = 402 - t ∧ t1 ≤ t ∧ exI p0 B c t0 M t op stk out v ∧ sumS K V (401 - t) t op stk out due = res) ∨ (m = 0 ∧ D v)) k hk hk2 ?_
    rintro m v (⟨t, op, stk, out, rfl, ht, hI, hr⟩ | ⟨rfl, hD⟩)
    · have tc := hI.2.2.2.2.2.2.2.1
      refine zT_w (hs t op stk out v ht hI hr) ?_
      rintro (v1 | e) hv
      · rcases hv with ⟨t2, op2, stk2, out2, l, hI2, _, hr2⟩ | hD
        · exact ⟨402 - t2, by omega, Or.inl ⟨t2, op2, stk2, out2, rfl, by omega, hI2, hr2⟩⟩
        · exact ⟨0, by omega, Or.inr ⟨rfl, hD⟩⟩
      · exact hv
    · refine zT_w (hd v hD) ?_
      rintro (v1 | e) hv
      · exact absurd hv id
      · exact hv
  rcases h with ⟨t, op, stk, out, ht, hI, _, hr⟩ | hD
  · exact main (402 - t) (Or.inl ⟨t, op, stk, out, rfl, ht, hI, hr⟩) (by omega)
  · exact main 0 (Or.inr ⟨rfl, hD⟩) (by omega)
theorem exL.mo {due : Bool} {cond : Nat → Nat → Prop} {t1 t2 : Nat} (h : exL K V p0 B c t0 M res due cond t2 M1) (ht : t1 ≤ t2) : exL K V p0 B c t0 M res due cond t1 M1 := by
  obtain ⟨t, op, stk, out, l, h⟩ := h
  exact ⟨t, op, stk, out, by omega, h⟩
theorem X12_opens (hR : zMd R) (hk : tkR M K V P c) (hK : endS K c) (hB : p0 ≤ B + t0) (x1 : Int32) {t1 : Nat} {M1 : zM} (h : exL K V p0 B c t0 M res true (fun _ _ => True) t1 M1 ∨ exD P p0 B M res M1) : zT (zloop zN (fun v => b_X12_expression_23 R v 242 x1) M1) (fun e => exL K V p0 B c t0 M res true (fun t _ => ¬ K t = 6) t1 e ∨ exD P p0 B M res e) := by
  refine exLoop (D := exD P p0 B M res) (fun t op stk out M2 ht hI hr => ?_) (fun M2 hD => ?_) hk.1 h
  · refine zT_w (X12_open hR hk hK hB x1 hI hr) ?_
    rintro (v | e) hv
    · exact hv
    · rcases hv with hv | hv
      · exact Or.inl (hv.mo ht)
      · exact Or.inr hv
  · obtain ⟨f, h1, h2⟩ := id hD
    unfold b_X12_expression_23
    exact zT_bd (zT_eq (X12_isD h1 6) (zT_if1 rfl (zT_some (Or.inr hD))))
/-- a value -/
theorem X12_unit (hR : zMd R) (hk : tkR M K V P c) (hK : endS K c) (hB : p0 ≤ B + t0) (hB2 : B + 420 ≤ 840) {t1 : Nat} {M1 : zM} (h : exL K V p0 B c t0 M res true (fun t _ => ¬ K t = 6) t1 M1 ∨ exD P p0 B M res M1) : zT (f_X12_unit R M1 242) (fun e => (M1 242 13 = 0 ∧ exL K V p0 B c t0 M res false (fun _ _ => True) (t1 + 1) e ∧ M1 242 13 ≤ 0 ∧ e 242 13 ≤ 0) ∨ (exD P p0 B M res e ∧ ¬ e 242 13 ≤ 0)) := by
  unfold f_X12_unit j_X12_unit_88
  rcases h with ⟨t, op, stk, out, l, hI, c6, hr⟩ | hD
  case inr =>
    obtain ⟨f, h1, h2⟩ := id hD
    exact zT_bd (zT_eq (X12_isD h1 2) (zT_if1 rfl (zT_if0 h1.ne.1 (zT_bd (zT_eq (X12_failD h1 1) (zT_some (Or.inr ⟨hD, h1.ne.2.1⟩)))))))
  have hb := hI.b hB hk.1
  have c4 := hk.1
  have h0 := hI
  obtain ⟨h1, h2, h3, h4, h5, h6, h7, p1, p2, p3, p4⟩ := hI
  have hk1 := exA_tk h7 hk
  obtain ⟨k5, k6, k7⟩ := hk1.2 t p1
  rw [show 401 - t = (400 - t) + 1 by omega] at hr
  have step : ∀ (k x : Int32), K t ≠ 0 → (sB (goS t) fun t1 => sumS K V (400 - t) t1 op stk (out ++ [(k, x)]) false) = res → zT (zbd (f_X12_emit R M1 242 k x) fun M17 => zbd (f_X12_goesOn R M17 242) fun M19 => some M19) (fun e => (M1 242 13 = 0 ∧ exL K V p0 B c t0 M res false (fun _ _ => True) (t1 + 1) e ∧ M1 242 13 ≤ 0 ∧ e 242 13 ≤ 0) ∨ (exD P p0 B M res e ∧ ¬ e 242 13 ≤ 0)) := fun k x hk0 hr => by
    refine zT_bd (zT_w (X12_emit hR (p := p0 + out.length) (by omega) h5 k x) ?_)
    rintro M2 ⟨a1, a2, a3, g2⟩
    have g02 : zag (exA p0 B) M M2 := h7.tr (g2.mo (fun b j q => by unfold emA at q; unfold exA; omega))
    have hk2 := exA_tk g02 hk
    refine zT_bd (zT_w (X12_go hR hk2 (t := t) ⟨by rw [g2 242 11 (by unfold emA; omega)]; exact h1.1, by rw [g2 242 13 (by unfold emA; omega)]; exact h1.2⟩ p1) ?_)
    rintro M3 ⟨hm, g3⟩
    have g03 : zag (exA p0 B) M M3 := g02.tr (tgA_ex g3)
    refine zT_some ?_
    cases hh : goS t with
    | inl f =>
      rw [hh] at hm
      rw [sB_l hh] at hr
      exact Or.inr ⟨⟨f, hm, g03, hr.symm⟩, hm.ne.2.1⟩
    | inr t2 =>
      rw [hh] at hm
      rw [sB_r hh] at hr
      obtain ⟨rfl, b1⟩ := goS_ok hK p1 hk0 hh
      refine Or.inl ⟨h1.2, ⟨t + 1, op, stk, out ++ [(k, x)], by omega, ⟨hm, ?_, ?_, zStk.eq _ (fun j hj => ?_) h4, ?_, zCd.snoc h6 (fun a i q1 q2 q3 q4 => ?_) ?_ ?_, g03, b1, p2, p3, ?_⟩, trivial, ?_⟩, by rw [h1.2]; decide, by rw [hm.2]; decide⟩
      · rw [g3 242 41 (by unfold tgA; omega), g2 242 41 (by unfold emA; omega)]; exact h2
      · rw [g3 242 12 (by unfold tgA; omega), g2 242 12 (by unfold emA; omega)]; exact h3
      · rw [g3 267 j (by unfold tgA; omega), g2 267 j (by unfold emA; omega)]
      · rw [g3 242 37 (by unfold tgA; omega), a1, List.length_append]; rfl
      · rw [g3 a i (by unfold tgA; omega), g2 a i (by unfold emA; omega)]
      · rw [g3 265 _ (by unfold tgA; omega)]; exact a2
      · rw [g3 266 _ (by unfold tgA; omega)]; exact a3
      · rw [List.length_append, List.length_singleton]; omega
      · rw [show 401 - (t + 1) = 400 - t by omega]; exact hr
  have lft : sumS K V ((400 - t) + 1) t op stk out true = if K t = 2 then sB (goS t) fun t1 => sumS K V (400 - t) t1 op stk (out ++ [(0, V t)]) false else if 33 ≤ K t ∧ K t ≤ 39 then sB (goS t) fun t1 => sumS K V (400 - t) t1 op stk (out ++ [(1, K t - 33)]) false else .inl (1, t) := by
    show (if K t = 6 then _ else _) = _
    rw [if_neg c6]
  rw [lft] at hr
  have tin : zin (M1 242 11) 403 = true := by rw [h1.1]; exact zin_nI (by omega) (by omega)
  have tz : ztn (M1 242 11) = t := by rw [h1.1]; exact ztn_nI (by omega)
  rw [tz, hR.at (k := 5) (b := 245) rfl (by decide), hR.at (k := 7) (b := 247) rfl (by decide), k5]
  refine zT_bd (zT_eq (X12_is hR hk1 h1 p1 2) ?_)
  by_cases c2 : K t = 2
  · rw [if_pos c2] at hr ⊢
    rw [k7 c2]
    exact zT_if0 (by decide) (zT_ck tin (step 0 (V t) (by rw [c2]; decide) hr))
  rw [if_neg c2] at hr ⊢
  refine zT_if1 rfl (zT_if1 h1.2 (zT_ck tin ?_))
  have bad : ¬ (33 ≤ K t ∧ K t ≤ 39) → zT (zbd (f_X12_fail R M1 242 1) fun M5 => some M5) (fun e => (M1 242 13 = 0 ∧ exL K V p0 B c t0 M res false (fun _ _ => True) (t1 + 1) e ∧ M1 242 13 ≤ 0 ∧ e 242 13 ≤ 0) ∨ (exD P p0 B M res e ∧ ¬ e 242 13 ≤ 0)) := fun hn => by
    rw [if_neg hn] at hr
    refine zT_bd (zT_w (X12_fail hR hk1 h1 p1 (k := 1) (Or.inl rfl)) ?_)
    rintro M2 ⟨f2, g2⟩
    exact zT_some (Or.inr ⟨⟨(1, t), f2, h7.tr (g2.mo (fun b j q => by unfold exA; omega)), hr.symm⟩, f2.ne.2.1⟩)
  by_cases c3 : K t < 33
  · exact zT_if1 c3 (bad (fun z => absurd (Int32.lt_of_lt_of_le c3 z.1) (Int32.lt_irrefl)))
  refine zT_if0 c3 (zT_ck tin ?_)
  by_cases c9 : 39 < K t
  · exact zT_if1 c9 (bad (fun z => absurd (Int32.lt_of_lt_of_le c9 z.2) (Int32.lt_irrefl)))
  have cc : 33 ≤ K t ∧ K t ≤ 39 := ⟨Int32.not_lt.1 c3, Int32.not_lt.1 c9⟩
  rw [if_pos cc] at hr
  exact zT_if0 c9 (zT_ck tin (step 1 (K t - 33) (fun q => by rw [q] at cc; exact absurd cc.1 (by decide)) hr))
end REF

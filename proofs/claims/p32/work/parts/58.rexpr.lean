/-! READ, on the reference's side: the rest of an E -/
theorem popTail {M : zM} {b : Nat} (lb : Nat) : ∀ (s : List Int32), zStk M b s → zStk M b (popS lb s).2
  | [], h => h
  | w :: s, h => by
    unfold popS
    by_cases c : bondR w < lb
    · rw [if_pos c]
      exact h
    · rw [if_neg c]
      exact popTail lb s h.2
def exO (P : Nat → Int32) (p0 B : Nat) (M : zM) (res : tF ⊕ (Nat × zEx)) (M1 : zM) : Prop := exD P p0 B M res M1 ∨ ∃ r, res = .inr r ∧ AR r.1 M1 ∧ M1 242 12 = 0 ∧ M1 242 37 = nI (p0 + r.2.length) ∧ zCd M1 p0 r.2 ∧ zag (exA p0 B) M M1
def exN (c : Nat) (K V P : Nat → Int32) (p0 B t0 : Nat) (M : zM) (res : tF ⊕ (Nat × zEx)) (m : Nat) (v : Int32 × zM) : Prop := (∃ (t op : Nat) (stk : List Int32) (out : zEx), m = 402 - t ∧ v.1 = 1 ∧ exI p0 B c t0 M t op stk out v.2 ∧ sumS K V (401 - t) t op stk out true = res) ∨ (m = 0 ∧ v.1 = 1 ∧ exD P p0 B M res v.2)
def exQ (R : zR) (P : Nat → Int32) (p0 B : Nat) (M : zM) (res : tF ⊕ (Nat × zEx)) : zM ⊕ (zM ⊕ zM) → Prop := fun e58 => zT (Sum.elim (fun e59 => some e59) (fun e60 => Sum.elim (fun e61 => if (e61 242 12) ≤ 0 then j_X12_expression_204 R e61 242 else zbd (f_X12_fail R e61 242 (1 : Int32)) fun M66 => j_X12_expression_204 R M66 242) (fun e62 => some e62) e60) e58) (exO P p0 B M res)
section REF
variable {R : zR} {M M1 : zM} {K V P : Nat → Int32} {c t t0 p0 B : Nat} {f : tF} {op : Nat} {stk : List Int32} {out : zEx} {res : tF ⊕ (Nat × zEx)}
theorem coA_ex {p e : Nat} (h : zag (coA p e) M M1) (h1 : p0 ≤ p) (h2 : e ≤ B + 420) : zag (exA p0 B) M M1 := h.mo (fun b j q => by unfold coA at q; unfold exA; omega)
theorem X12_close (hR : zMd R) (hk : tkR M K V P c) (hK : endS K c) (hB : p0 ≤ B + t0) (hB2 : B + 420 ≤ 840) {M1 : zM} (h : exI p0 B c t0 M t op stk out M1) (hr : sumS K V (401 - t) t op stk out false = res) : zT (b_X12_expression_96 R M1 242 0) (Sum.elim (fun v => exL K V p0 B c t0 M res false (fun _ _ => True) (t + 1) v ∨ (exD P p0 B M res v ∧ exW p0 B v)) (fun e => exL K V p0 B c t0 M res false (fun t op => ¬ (K t = 7 ∧ 0 < op)) t e ∨ (exD P p0 B M res e ∧ exW p0 B e))) := by
  have hb := h.b hB hk.1
  have c4 := hk.1
  have h0 := h
  obtain ⟨h1, h2, h3, h4, h5, h6, h7, p1, p2, p3, p4⟩ := h
  have hk1 := exA_tk h7 hk
  have hmem := wfS_mem stk op p3
  unfold b_X12_expression_96
  refine zT_bd (zT_eq (X12_is hR hk1 h1 p1 7) ?_)
  by_cases c7 : K t = 7
  case neg =>
    rw [if_neg c7]
    exact zT_if1 rfl (zT_some (Or.inl ⟨t, op, stk, out, Nat.le_refl _, h0, fun z => c7 z.1, hr⟩))
  rw [if_pos c7]
  refine zT_if0 (by decide) ?_
  by_cases o0 : 0 < op
  case neg => exact zT_if1 (by rw [h3, show op = 0 by omega]; decide) (zT_some (Or.inl ⟨t, op, stk, out, Nat.le_refl _, h0, fun z => o0 z.2, hr⟩))
  refine zT_if0 (by rw [h3]; exact nI_np o0 (by omega)) ?_
  rw [show 401 - t = (400 - t) + 1 by omega] at hr
  have hsp : sumS K V ((400 - t) + 1) t op stk out false = sB (goS t) fun t1 => sumS K V (400 - t) t1 (op - 1) (popS 1 stk).2.tail (out ++ (popS 1 stk).1) false := by
    show (if K t = 7 ∧ 0 < op then _ else _) = _
    rw [if_pos ⟨c7, o0⟩]
  rw [hsp] at hr
  obtain ⟨q1, q2, q3, q4, q5⟩ := popS_wf (lb := 1) (by omega) stk op p3
  obtain ⟨s, e1, e2, e3⟩ := popTop p3 o0
  have w1 := wfS_n s _ e2
  rw [e1, List.tail_cons] at hr
  have hout := X12_out hR (lb := 0) (Or.inl rfl) hmem h2 hb.2.1 h4 h5 (by omega) h6
  refine zT_bd (zT_w hout ?_)
  rintro M2 ⟨a1, a2, a3, g2⟩
  rw [e1, List.length_cons] at a1
  rw [e1, List.length_cons] at q5
  have g02 : zag (exA p0 B) M M2 := h7.tr (coA_ex g2 (by omega) (by omega))
  rw [a1, nI_sub1 (by omega), Nat.add_sub_cancel]
  refine zT_lt ?_
  have e12 : zup M2 242 41 (nI s.length) 242 12 = nI op := by rw [zup_k (by omega), g2 242 12 (by unfold coA; omega)]; exact h3
  rw [e12, nI_sub1 o0]
  have v41 : zup (zup M2 242 41 (nI s.length)) 242 12 (nI (op - 1)) 242 41 = nI s.length := by rw [zup_k (by omega), zup_same]
  have v12 : zup (zup M2 242 41 (nI s.length)) 242 12 (nI (op - 1)) 242 12 = nI (op - 1) := zup_same
  have vO : ∀ b j, ¬ (b = 242 ∧ (j = 41 ∨ j = 12)) → zup (zup M2 242 41 (nI s.length)) 242 12 (nI (op - 1)) b j = M2 b j := fun b j hbj => by
    by_cases e : b = 242
    · subst e
      rw [zup_k (by omega), zup_k (by omega)]
    · rw [zup_a e, zup_a e]
  have g03 : zag (exA p0 B) M (zup (zup M2 242 41 (nI s.length)) 242 12 (nI (op - 1))) := (g02.up (by unfold exA; omega)).up (by unfold exA; omega)
  refine zT_lt ?_
  generalize zup (zup M2 242 41 (nI s.length)) 242 12 (nI (op - 1)) = M3 at v41 v12 vO g03 ⊢
  refine zT_bd (zT_w (X12_go hR (exA_tk g03 hk) (t := t) ⟨by rw [vO _ _ (by omega), g2 242 11 (by unfold coA; omega)]; exact h1.1, by rw [vO _ _ (by omega), g2 242 13 (by unfold coA; omega)]; exact h1.2⟩ p1) ?_)
  rintro M4 ⟨hm, g4⟩
  have g04 : zag (exA p0 B) M M4 := g03.tr (tgA_ex g4)
  have f41 : M4 242 41 = nI s.length := by rw [g4 242 41 (by unfold tgA; omega)]; exact v41
  have f37 : M4 242 37 = nI (p0 + (out ++ (popS 1 stk).1).length) := by rw [g4 242 37 (by unfold tgA; omega), vO _ _ (by omega)]; exact a2
  refine zT_some ?_
  have ln : (out ++ (popS 1 stk).1).length + opsN s + t0 ≤ t := by
    rw [List.length_append, e3]
    omega
  cases hh : goS t with
  | inl f =>
    rw [hh] at hm
    rw [sB_l hh] at hr
    exact Or.inr ⟨⟨f, hm, g04, hr.symm⟩, s.length, _, by omega, f41, f37, by omega, by omega⟩
  | inr t1 =>
    rw [hh] at hm
    rw [sB_r hh] at hr
    obtain ⟨rfl, b1⟩ := goS_ok hK p1 (by rw [c7]; decide) hh
    refine Or.inl ⟨t + 1, op - 1, s, out ++ (popS 1 stk).1, Nat.le_refl _, ⟨hm, f41, ?_, zStk.eq _ (fun j hj => ?_) (e1 ▸ popTail 1 stk h4 : zStk M1 267 (6 :: s)).2, f37, ?_, g04, b1, by omega, e2, by omega⟩, trivial, ?_⟩
    · rw [g4 242 12 (by unfold tgA; omega)]; exact v12
    · rw [g4 267 j (by unfold tgA; omega), vO _ _ (by omega), g2 267 j (by unfold coA; omega)]
    · exact zCd.eq (fun j => by rw [g4 265 j (by unfold tgA; omega), vO _ _ (by omega)]) (fun j => by rw [g4 266 j (by unfold tgA; omega), vO _ _ (by omega)]) _ _ a3
    · rw [show 401 - (t + 1) = 400 - t by omega]
      exact hr
theorem X12_closes (hR : zMd R) (hk : tkR M K V P c) (hK : endS K c) (hB : p0 ≤ B + t0) (hB2 : B + 420 ≤ 840) {t1 : Nat} {M1 : zM} (h : exL K V p0 B c t0 M res false (fun _ _ => True) t1 M1) : zT (zloop zN (fun v => b_X12_expression_96 R v 242 0) M1) (fun e => exL K V p0 B c t0 M res false (fun t op => ¬ (K t = 7 ∧ 0 < op)) t1 e ∨ (exD P p0 B M res e ∧ exW p0 B e)) := by
  refine exLoop (D := fun v => exD P p0 B M res v ∧ exW p0 B v) (fun t op stk out M2 ht hI hr => ?_) (fun M2 hD => ?_) hk.1 (Or.inl h)
  · refine zT_w (X12_close hR hk hK hB hB2 hI hr) ?_
    rintro (v | e) hv
    · exact hv
    · rcases hv with hv | hv
      · exact Or.inl (hv.mo ht)
      · exact Or.inr hv
  · obtain ⟨⟨f, h1, h2⟩, h3⟩ := id hD
    unfold b_X12_expression_96
    exact zT_bd (zT_eq (X12_isD h1 7) (zT_if1 rfl (zT_some (Or.inr hD))))
/-- behind, after a fault -/
theorem exD.q (hR : zMd R) (hB2 : B + 420 ≤ 840) (h : exD P p0 B M res M1) (hw : exW p0 B M1) : exQ R P p0 B M res (.inr (.inl M1)) := by
  obtain ⟨f, h1, h2, h3⟩ := h
  obtain ⟨w, p, w1, w2, w3, w4, w5⟩ := hw
  have J : zT (j_X12_expression_204 R M1 242) (exO P p0 B M res) := by
    unfold j_X12_expression_204
    refine zT_bd (zT_w (X12_outT hR (by omega) w2 w3 (by omega) 0) ?_)
    rintro M2 ⟨g2, _⟩
    exact zT_some (Or.inl ⟨f, h1.eq (g2 242 13 (by unfold coA; omega)) (g2 242 14 (by unfold coA; omega)), h2.tr (coA_ex g2 w4 w5), h3⟩)
  show zT (if (M1 242 12) ≤ 0 then j_X12_expression_204 R M1 242 else zbd (f_X12_fail R M1 242 (1 : Int32)) fun M66 => j_X12_expression_204 R M66 242) _
  exact zT_if (fun _ => J) (fun _ => zT_bd (zT_eq (X12_failD h1 1) J))
/-- a sign, or behind -/
theorem X12_signS (hR : zMd R) (hk : tkR M K V P c) (hK : endS K c) (hB : p0 ≤ B + t0) (hB2 : B + 420 ≤ 840) {M1 : zM} (h : exI p0 B c t0 M t op stk out M1) (hr : sumS K V (401 - t) t op stk out false = res) (hb0 : 0 < bondR (K t)) (h7' : ¬ (K t = 7 ∧ 0 < op)) : zT (j_X12_expression_186 R M1 242 0 1) (Sum.elim (fun v => ∃ k1, k1 < 402 - t ∧ exN c K V P p0 B t0 M res k1 v) (exQ R P p0 B M res)) := by
  have hb := h.b hB hk.1
  have c4 := hk.1
  obtain ⟨h1, h2, h3, h4, h5, h6, h7, p1, p2, p3, p4⟩ := h
  have hk1 := exA_tk h7 hk
  have hmem := wfS_mem stk op p3
  have kk := bond_k hb0
  have k6 : ¬ K t = 6 := by rcases kk with q | q | q | q <;> rw [q] <;> decide
  have k0 : ¬ K t = 0 := by rcases kk with q | q | q | q <;> rw [q] <;> decide
  rw [show 401 - t = (400 - t) + 1 by omega] at hr
  have hsp : sumS K V ((400 - t) + 1) t op stk out false = sB (goS t) fun t1 => sumS K V (400 - t) t1 op (K t :: (popS (bondR (K t)) stk).2) (out ++ (popS (bondR (K t)) stk).1) true := by
    show (if K t = 7 ∧ 0 < op then _ else _) = _
    rw [if_neg h7', if_pos hb0]
  rw [hsp] at hr
  obtain ⟨q1, q2, q3, q4, q5⟩ := popS_wf hb0 stk op p3
  have w1 := wfS_n _ op q1
  have J : ∀ lb, (lb = 0 ∨ lb = 1) → bondR (K t) = lb + 1 → zT (j_X12_expression_234 R M1 242 0 1 242 (nI lb)) (Sum.elim (fun v => ∃ k1, k1 < 402 - t ∧ exN c K V P p0 B t0 M res k1 v) (exQ R P p0 B M res)) := fun lb hlb hbl => by
    unfold j_X12_expression_234
    have hout := X12_out hR (lb := lb) hlb hmem h2 hb.2.1 h4 h5 (by omega) h6
    rw [← hbl] at hout
    refine zT_bd (zT_w hout ?_)
    rintro M2 ⟨a1, a2, a3, g2⟩
    have g02 : zag (exA p0 B) M M2 := h7.tr (coA_ex g2 (by omega) (by omega))
    have hk2 := exA_tk g02 hk
    have e11 : M2 242 11 = nI t := by rw [g2 242 11 (by unfold coA; omega)]; exact h1.1
    rw [hR.at (k := 40) (b := 267) rfl (by decide), hR.at (k := 5) (b := 245) rfl (by decide), e11, a1, ztn_nI (by omega), ztn_nI (by omega), (hk2.2 t p1).1]
    refine zT_ck (zin_nI (by omega) (by omega)) (zT_ck (zin_nI (by omega) (by omega)) (zT_lt ?_))
    have e41 : zup M2 267 (popS (bondR (K t)) stk).2.length (K t) 242 41 = nI (popS (bondR (K t)) stk).2.length := by rw [zup_a (by omega)]; exact a1
    rw [e41, nI_1]
    refine zT_lt ?_
    have g03 : zag (exA p0 B) M (zup (zup M2 267 (popS (bondR (K t)) stk).2.length (K t)) 242 41 (nI ((popS (bondR (K t)) stk).2.length + 1))) := (g02.up (by unfold exA; omega)).up (by unfold exA; omega)
    have v41 : zup (zup M2 267 (popS (bondR (K t)) stk).2.length (K t)) 242 41 (nI ((popS (bondR (K t)) stk).2.length + 1)) 242 41 = nI ((popS (bondR (K t)) stk).2.length + 1) := zup_same
    have vT : zup (zup M2 267 (popS (bondR (K t)) stk).2.length (K t)) 242 41 (nI ((popS (bondR (K t)) stk).2.length + 1)) 267 (popS (bondR (K t)) stk).2.length = K t := by rw [zup_a (by omega), zup_same]
    have vO : ∀ b j, ¬ (b = 242 ∧ j = 41) → ¬ (b = 267 ∧ j = (popS (bondR (K t)) stk).2.length) → zup (zup M2 267 (popS (bondR (K t)) stk).2.length (K t)) 242 41 (nI ((popS (bondR (K t)) stk).2.length + 1)) b j = M2 b j := fun b j z1 z2 => by
      by_cases e : b = 242
      · subst e
        rw [zup_k (by omega), zup_a (by omega)]
      · rw [zup_a e]
        by_cases e : b = 267
        · subst e
          rw [zup_k (by omega)]
        · rw [zup_a e]
    generalize zup (zup M2 267 (popS (bondR (K t)) stk).2.length (K t)) 242 41 (nI ((popS (bondR (K t)) stk).2.length + 1)) = M3 at g03 v41 vT vO ⊢
    refine zT_bd (zT_w (X12_go hR (exA_tk g03 hk) (t := t) ⟨by rw [vO _ _ (by omega) (by omega)]; exact e11, by rw [vO _ _ (by omega) (by omega), g2 242 13 (by unfold coA; omega)]; exact h1.2⟩ p1) ?_)
    rintro M4 ⟨hm, g4⟩
    have g04 : zag (exA p0 B) M M4 := g03.tr (tgA_ex g4)
    refine zT_some ?_
    cases hh : goS t with
    | inl f =>
      rw [hh] at hm
      rw [sB_l hh] at hr
      exact ⟨0, by omega, Or.inr ⟨rfl, rfl, f, hm, g04, hr.symm⟩⟩
    | inr t1 =>
      rw [hh] at hm
      rw [sB_r hh] at hr
      obtain ⟨rfl, b1⟩ := goS_ok hK p1 k0 hh
      refine ⟨402 - (t + 1), by omega, Or.inl ⟨t + 1, op, K t :: (popS (bondR (K t)) stk).2, out ++ (popS (bondR (K t)) stk).1, rfl, rfl, ⟨hm, ?_, ?_, ⟨?_, zStk.eq _ (fun j hj => ?_) (popTail _ stk h4)⟩, ?_, ?_, g04, b1, p2, ?_, ?_⟩, ?_⟩⟩
      · dsimp only; rw [g4 242 41 (by unfold tgA; omega)]; exact v41
      · dsimp only; rw [g4 242 12 (by unfold tgA; omega), vO _ _ (by omega) (by omega), g2 242 12 (by unfold coA; omega)]; exact h3
      · dsimp only; rw [g4 267 _ (by unfold tgA; omega)]; exact vT
      · dsimp only; rw [g4 267 j (by unfold tgA; omega), vO _ _ (by omega) (by omega), g2 267 j (by unfold coA; omega)]
      · dsimp only; rw [g4 242 37 (by unfold tgA; omega), vO _ _ (by omega) (by omega)]; exact a2
      · dsimp only; exact zCd.eq (fun j => by rw [g4 265 j (by unfold tgA; omega), vO _ _ (by omega) (by omega)]) (fun j => by rw [g4 266 j (by unfold tgA; omega), vO _ _ (by omega) (by omega)]) _ _ a3
      · unfold wfS
        rw [if_neg k6]
        exact ⟨kk, q2, q1⟩
      · rw [List.length_append, opsN_c, if_neg k6]
        omega
      · rw [show 401 - (t + 1) = 400 - t by omega]
        exact hr
  unfold j_X12_expression_186 j_X12_expression_229
  refine zT_if0 (by decide) (zT_bd (zT_eq (X12_is hR hk1 h1 p1 10) ?_))
  by_cases c10 : K t = 10
  · rw [if_pos c10]
    exact zT_if0 (by decide) (J 1 (Or.inr rfl) (by rw [c10]; decide))
  rw [if_neg c10]
  refine zT_if1 rfl (zT_bd (zT_eq (X12_is hR hk1 h1 p1 15) ?_))
  by_cases c15 : K t = 15
  · rw [if_pos c15]
    exact zT_if0 (by decide) (J 1 (Or.inr rfl) (by rw [c15]; decide))
  rw [if_neg c15]
  refine zT_if1 rfl (J 0 (Or.inl rfl) ?_)
  rcases kk with q | q | q | q
  · rw [q]; decide
  · rw [q]; decide
  · exact absurd q c10
  · exact absurd q c15
theorem X12_end (hR : zMd R) (hk : tkR M K V P c) (hB : p0 ≤ B + t0) (hB2 : B + 420 ≤ 840) {M1 : zM} (h : exI p0 B c t0 M t op stk out M1) (hr : sumS K V (401 - t) t op stk out false = res) (hb0 : ¬ 0 < bondR (K t)) (h7' : ¬ (K t = 7 ∧ 0 < op)) : exQ R P p0 B M res (.inr (.inl M1)) := by
  have hb := h.b hB hk.1
  have c4 := hk.1
  obtain ⟨h1, h2, h3, h4, h5, h6, h7, p1, p2, p3, p4⟩ := h
  have hk1 := exA_tk h7 hk
  have hmem := wfS_mem stk op p3
  rw [show 401 - t = (400 - t) + 1 by omega] at hr
  have hsp : sumS K V ((400 - t) + 1) t op stk out false = if 0 < op then .inl (1, t) else .inr (t, out ++ (popS 1 stk).1) := by
    show (if K t = 7 ∧ 0 < op then _ else _) = _
    rw [if_neg h7', if_neg hb0]
  rw [hsp] at hr
  show zT (if (M1 242 12) ≤ 0 then j_X12_expression_204 R M1 242 else zbd (f_X12_fail R M1 242 (1 : Int32)) fun M66 => j_X12_expression_204 R M66 242) _
  by_cases o0 : 0 < op
  · rw [if_pos o0] at hr
    refine zT_if0 (by rw [h3]; exact nI_np o0 (by omega)) (zT_bd (zT_w (X12_fail hR hk1 h1 p1 (k := 1) (Or.inl rfl)) ?_))
    rintro M2 ⟨f2, g2⟩
    unfold j_X12_expression_204
    refine zT_bd (zT_w (X12_outT hR (w := stk.length) (p := p0 + out.length) (by omega) (by rw [g2 242 41 (by omega)]; exact h2) (by rw [g2 242 37 (by omega)]; exact h5) (by omega) 0) ?_)
    rintro M3 ⟨g3, _⟩
    exact zT_some (Or.inl ⟨(1, t), f2.eq (g3 242 13 (by unfold coA; omega)) (g3 242 14 (by unfold coA; omega)), (h7.tr (g2.mo (fun b j q => by unfold exA; omega))).tr (coA_ex g3 (by omega) (by omega)), hr.symm⟩)
  · rw [if_neg o0] at hr
    refine zT_if1 (by rw [h3, show op = 0 by omega]; decide) ?_
    unfold j_X12_expression_204
    refine zT_bd (zT_w (X12_out hR (lb := 0) (Or.inl rfl) hmem h2 hb.2.1 h4 h5 (by omega) h6) ?_)
    rintro M3 ⟨a1, a2, a3, g3⟩
    exact zT_some (Or.inr ⟨_, hr.symm, ⟨by rw [g3 242 11 (by unfold coA; omega)]; exact h1.1, by rw [g3 242 13 (by unfold coA; omega)]; exact h1.2⟩, by rw [g3 242 12 (by unfold coA; omega), h3, show op = 0 by omega]; rfl, a2, a3, h7.tr (coA_ex g3 (by omega) (by omega))⟩)
/-- an E -/
theorem X12_expr (hR : zMd R) (hk : tkR M K V P c) (hK : endS K c) (hal : AR t M) (ht : t ≤ c) (h12 : M 242 12 = 0) (h37 : M 242 37 = nI p0) (hB : p0 ≤ B + t) (hB2 : B + 420 ≤ 840) : zT (f_X12_expression R M 242) (exO P p0 B M (exS K V t)) := by
  obtain ⟨res, hres⟩ : ∃ res, exS K V t = res := ⟨_, rfl⟩
  rw [hres]
  unfold exS at hres
  have c4 := hk.1
  unfold f_X12_expression
  have e12 : zup M 242 41 0 242 12 = 0 := by rw [zup_k (by omega)]; exact h12
  refine zT_lt ?_
  rw [e12]
  have I0 : exI p0 B c t M t 0 [] [] (zup M 242 41 0) := ⟨⟨by rw [zup_k (by omega)]; exact hal.1, by rw [zup_k (by omega)]; exact hal.2⟩, zup_same, e12, trivial, by rw [zup_k (by omega)]; exact h37, trivial, zag.rf.up (by unfold exA; omega), ht, by omega, rfl, by show 0 + 0 + t ≤ t; omega⟩
  generalize zup M 242 41 0 = M0 at I0 ⊢
  refine zT_bd (zT_loop (Q := exQ R P p0 B M res) (exN c K V P p0 B t M res) (402 - t) (Or.inl ⟨t, 0, [], [], rfl, rfl, I0, hres⟩) (by omega) ?_)
  rintro m ⟨x2, M1⟩ (⟨t1, op, stk, out, rfl, e, hI, hr⟩ | ⟨rfl, e, hD⟩)
  case inr =>
    obtain rfl : x2 = 1 := e
    obtain ⟨f, h1, h2⟩ := id hD
    unfold b_X12_expression_12
    exact zT_if0 (show ¬ (1 : Int32) = 0 by decide) (zT_if0 h1.ne.1 (zT_some (show exQ R P p0 B M res (.inr (.inr M1)) from zT_some (Or.inl hD))))
  obtain rfl : x2 = 1 := e
  dsimp only at hI
  have tc := hI.2.2.2.2.2.2.2.1
  have hal1 := hI.1
  unfold b_X12_expression_12
  refine zT_if0 (show ¬ (1 : Int32) = 0 by decide) (zT_if1 hal1.2 (zT_bd (zT_w (X12_opens hR hk hK hB 0 (t1 := t1) (P := P) (Or.inl ⟨t1, op, stk, out, Nat.le_refl _, hI, trivial, hr⟩)) ?_)))
  intro M2 h2
  refine zT_bd (zT_w (X12_unit hR hk hK hB hB2 h2) ?_)
  rintro M3 (⟨_, h3, _, e13⟩ | ⟨hD, e13⟩)
  case inr => exact zT_if0 e13 (zT_some (show exQ R P p0 B M res (.inl M3) from zT_some (Or.inl hD)))
  refine zT_if1 e13 (zT_bd (zT_w (X12_closes (P := P) hR hk hK hB hB2 h3) ?_))
  rintro M4 (⟨t2, op2, stk2, out2, l, hI4, h7', hr4⟩ | ⟨hD, hw⟩)
  case inr =>
    obtain ⟨f, h1, h2⟩ := id hD
    unfold j_X12_expression_186
    exact zT_bd (zT_eq (X12_isD h1 8) (zT_if1 rfl (zT_bd (zT_eq (X12_isD h1 9) (zT_if1 rfl (zT_bd (zT_eq (X12_isD h1 10) (zT_if1 rfl (zT_bd (zT_eq (X12_isD h1 15) (zT_if1 rfl (zT_if1 rfl (zT_some (hD.q hR hB2 hw))))))))))))))
  have t2c := hI4.2.2.2.2.2.2.2.1
  have hk4 := exA_tk hI4.2.2.2.2.2.2.1 hk
  have J : 0 < bondR (K t2) → zT (j_X12_expression_181 R M4 242 0) (Sum.elim (fun v1 => ∃ k1, k1 < 402 - t1 ∧ exN c K V P p0 B t M res k1 v1) (exQ R P p0 B M res)) := fun hb0 => by
    unfold j_X12_expression_181
    refine zT_w (X12_signS hR hk hK hB hB2 hI4 hr4 hb0 h7') ?_
    rintro (v | e) hv
    · obtain ⟨k1, q1, q2⟩ := hv
      exact ⟨k1, by omega, q2⟩
    · exact hv
  refine zT_bd (zT_eq (X12_is hR hk4 hI4.1 t2c 8) ?_)
  by_cases c8 : K t2 = 8
  · rw [if_pos c8]
    exact zT_if0 (by decide) (J (by rw [c8]; decide))
  rw [if_neg c8]
  refine zT_if1 rfl (zT_bd (zT_eq (X12_is hR hk4 hI4.1 t2c 9) ?_))
  by_cases c9 : K t2 = 9
  · rw [if_pos c9]
    exact zT_if0 (by decide) (J (by rw [c9]; decide))
  rw [if_neg c9]
  refine zT_if1 rfl (zT_bd (zT_eq (X12_is hR hk4 hI4.1 t2c 10) ?_))
  by_cases c10 : K t2 = 10
  · rw [if_pos c10]
    exact zT_if0 (by decide) (J (by rw [c10]; decide))
  rw [if_neg c10]
  refine zT_if1 rfl (zT_bd (zT_eq (X12_is hR hk4 hI4.1 t2c 15) ?_))
  by_cases c15 : K t2 = 15
  · rw [if_pos c15]
    exact zT_if0 (by decide) (J (by rw [c15]; decide))
  rw [if_neg c15]
  unfold j_X12_expression_186
  refine zT_if1 rfl (zT_if1 rfl (zT_some (X12_end hR hk hB hB2 hI4 hr4 (fun z => ?_) h7')))
  rcases bond_k z with q | q | q | q
  · exact c8 q
  · exact c9 q
  · exact c10 q
  · exact c15 q
end REF

/-! READ, on the reference's side: the whole text -/
def ftR (K V P : Nat → Int32) (E : Nat → Nat → Bool) (c : Nat) (L : zL) : Prop := (∀ i, i ≤ c → K i ∈ kdL) ∧ endS K c ∧ (∀ i j, i < j → j ≤ c → P i < P j) ∧ valS K V c ∧ (∀ i, i ≤ c → K i = 2 → V i ≤ 9999) ∧ (∀ i j, i ≤ c → j ≤ c → K i = 1 → K j = 1 → (E i j = true ↔ L 248 i = L 248 j))
section REF
variable {R : zR} {M M1 : zM} {L L1 : zL} {K V P : Nat → Int32} {E : Nat → Nat → Bool} {c t l n : Nat} {f : tF} {x : zTx}
theorem X12_tell (hR : zMd R) (hk : tkR M K V P c) (hF : ftR K V P E c L) (hl : l < 2) (h : reS l K V P c M L t x M1 L1) : zT (f_X12_tell R M1 L1 242) (fun p => reO l K V P c M L (telS K V E t x) p.1 p.2) := by
  obtain ⟨hkd, hK, hP, hV, hV9, hE⟩ := hF
  have c4 := hk.1
  have tc := h.2.1
  have e11 := h.1.1
  have k5 := ((h.tk hk).2 t tc).1
  have e19 := h.2.2.2.1.2
  have e51 := h.2.2.2.2.1.1
  have x10 := h.2.2.1.1
  have tin : zin (nI t) 403 = true := zin_nI (by omega) (by omega)
  unfold f_X12_tell
  rw [e11, hR.at (k := 5) (b := 245) rfl (by decide), ztn_nI (by omega), k5]
  refine zT_ck tin ?_
  by_cases c20 : K t = 20
  · refine zT_if1 c20 ?_
    rw [e19, hR.at (k := 22) (b := 251) rfl (by decide), ztn_nI (by omega), e51]
    refine zT_ck (zin_nI (by omega) (by omega)) ?_
    unfold j_X12_tell_83
    by_cases c10 : x.1.length = 10
    · refine zT_if1 (by rw [c10]; rfl) (zT_bd (zT_w (h.fail hR hk (k := 2) (Or.inr rfl)) ?_))
      intro M2 hd
      exact zT_if0 hd.1.ne.1 (zT_some (Or.inl ⟨_, by rw [telS_20 c20, if_pos c10], hd⟩))
    · refine zT_if0 (fun z => c10 (nI_inj (by omega) (by omega) (z.trans (nI_lit 10)))) (zT_if1 h.1.2 (zT_bd2 (zT_w (X12_house hR hk hK hP hV hV9 hE hl h c20 (by omega)) ?_)))
      rintro ⟨M2, L2⟩ h2
      exact zT_some h2
  refine zT_if0 c20 ?_
  by_cases c21 : K t = 21
  · exact zT_if1 c21 (X12_street hR hk hK hl h c21)
  refine zT_if0 c21 ?_
  by_cases c22 : K t = 22
  · exact zT_if1 c22 (X12_turns hR hk hK hl h c22)
  refine zT_if0 c22 ?_
  by_cases c23 : K t = 23
  · have e0 : K t - 23 = nI 0 := by rw [c23]; decide
    rw [e0]
    exact zT_if1 c23 (zT_ck tin (X12_lawL hR hk hK hV hl h (Or.inl ⟨rfl, c23⟩)))
  refine zT_if0 c23 ?_
  by_cases c24 : K t = 24
  · have e0 : K t - 23 = nI 1 := by rw [c24]; decide
    rw [e0]
    exact zT_if1 c24 (zT_ck tin (X12_lawL hR hk hK hV hl h (Or.inr ⟨rfl, c24⟩)))
  refine zT_if0 c24 ?_
  by_cases c25 : K t = 25
  · exact zT_if1 c25 (by
      have := X12_shared (E := E) hR hk hkd hK hP hl h c25
      rw [hR.at (k := 5) (b := 245) rfl (by decide)] at this
      exact this)
  refine zT_if0 c25 ?_
  have no : ∀ (q : ¬ K t = 29), zT (zbd (f_X12_fail R M1 242 (1 : Int32)) fun M77 => some (M77, L1)) (fun p => reO l K V P c M L (telS K V E t x) p.1 p.2) := fun q => by
    refine zT_bd (zT_w (h.fail hR hk (k := 1) (Or.inl rfl)) ?_)
    intro M2 hd
    exact zT_some (Or.inl ⟨_, telS_no ⟨c20, c21, c22, c23, c24, c25, q⟩, hd⟩)
  by_cases c26 : K t = 26
  · exact zT_if1 c26 (no (by rw [c26]; decide))
  refine zT_if0 c26 ?_
  by_cases c27 : K t = 27
  · exact zT_if1 c27 (no (by rw [c27]; decide))
  refine zT_if0 c27 ?_
  by_cases c28 : K t = 28
  · exact zT_if1 c28 (no (by rw [c28]; decide))
  refine zT_if0 c28 ?_
  by_cases c29 : K t = 29
  · exact zT_if1 c29 (X12_seed hR hk hK hP hV hV9 hl h c29)
  · exact zT_if0 c29 (no c29)
theorem X12_lines (hR : zMd R) (hk : tkR M K V P c) (hF : ftR K V P E c L) (hl : l < 2) (h : reS l K V P c M L 0 x M1 L1) : zT (zloop zN (fun v => b_X12_read_206 R v.1 v.2 242) (M1, L1)) (fun e => reO l K V P c M L (texS K V E 401 0 x) e.1 e.2) := by
  have c4 := hk.1
  obtain ⟨res, hr⟩ : ∃ res, texS K V E 401 0 x = res := ⟨_, rfl⟩
  rw [hr]
  refine zT_loop (fun m v => (∃ (t fuel : Nat) (x : zTx), m = 402 - t ∧ reS l K V P c M L t x v.1 v.2 ∧ 401 ≤ fuel + t ∧ texS K V E fuel t x = res) ∨ (m = 0 ∧ ∃ f, reD l P M L f v.1 v.2 ∧ res = .inl f)) 402 (Or.inl ⟨0, 401, x, rfl, h, by omega, hr⟩) (by omega) ?_
  clear hr h
  rintro m ⟨M2, L2⟩ (⟨t, fuel, x, rfl, hs, hf, hr⟩ | ⟨rfl, f, hd, hr⟩)
  case inr =>
    unfold b_X12_read_206
    exact zT_if0 hd.1.ne.1 (zT_some (Or.inl ⟨f, hr, hd⟩))
  dsimp only at hs
  have tc := hs.2.1
  obtain ⟨m, rfl⟩ : ∃ m, fuel = m + 1 := ⟨fuel - 1, by omega⟩
  unfold texS at hr
  unfold b_X12_read_206
  refine zT_if1 hs.1.2 (zT_bd (zT_eq (X12_is hR (hs.tk hk) hs.1 tc 0) ?_))
  by_cases c0 : K t = 0
  · rw [if_pos c0] at hr ⊢
    exact zT_if0 (by decide) (zT_some (Or.inr ⟨_, hr.symm, hs⟩))
  rw [if_neg c0] at hr ⊢
  refine zT_if1 rfl (zT_bd2 (zT_w (X12_tell hR hk hF hl hs) ?_))
  rintro ⟨M3, L3⟩ (⟨f, e, hd⟩ | ⟨r, e, hs3⟩)
  · rw [sB_l e] at hr
    exact zT_some ⟨0, by omega, Or.inr ⟨rfl, f, hd, hr.symm⟩⟩
  · rw [sB_r e] at hr
    obtain ⟨a1, a2, _⟩ := telS_ok hF.2.2.2.1 hF.2.1 tc hs.2.2.1 e
    exact zT_some ⟨402 - r.1, by omega, Or.inl ⟨r.1, m, r.2, rfl, hs3, by omega, hr⟩⟩
/-- what is read is what the rules are -/
theorem reS.mz (hl : l < 2) (c4 : c ≤ 400) (h : reS l K V P c M L t x M1 L1) : zMz M1 l x.2.1 := by
  obtain ⟨a1, a2, ⟨o1, o2, o3, o4, o5, o6⟩, a4, a5, a6, ⟨fc, pc, b1, b2, b3, b4, b5, b6, b7, b8⟩, a8, a9, a10⟩ := h
  have pr : ∀ i k Q, dP Q → prR M1 l i k fc pc Q → zMq M1 l i k Q := fun i k Q hd hq => by
    rcases hq with hq | ⟨q0, f, p, q1, q2, q3, q4, q5, q6, q7⟩
    · exact ⟨hd, Or.inl hq⟩
    · exact ⟨hd, Or.inr ⟨q0, f, q1, q2, q3, by omega, lyZ.bz _ _ _ q7 q5 (by omega)⟩⟩
  exact ⟨hl, a6.1, a6.2.1, a6.2.2.1, a6.2.2.2.1, a6.2.2.2.2, pr _ _ _ o3 b7, pr _ _ _ o4 b8⟩
end REF

/-! READ, on the reference's side: a branch -/
def teA (p B b : Nat) : Nat → Nat → Prop := fun a k => exA p B a k ∨ ((a = 263 ∨ a = 264) ∧ k = b) ∨ (a = 242 ∧ k = 31)
def brA (p B b : Nat) : Nat → Nat → Prop := fun a k => exA p B a k ∨ (260 ≤ a ∧ a ≤ 264 ∧ k = b) ∨ (a = 242 ∧ k = 31)
theorem teA_br {M M1 : zM} {p p1 B b : Nat} (h : zag (teA p1 B b) M M1) (hp : p ≤ p1) : zag (brA p B b) M M1 := h.mo (fun a k q => by unfold teA exA at q; unfold brA exA; omega)
theorem exA_br {M M1 : zM} {p p1 B b : Nat} (h : zag (exA p1 B) M M1) (hp : p ≤ p1) : zag (brA p B b) M M1 := h.mo (fun a k q => by unfold exA at q; unfold brA exA; omega)
theorem tgA_br {M M1 : zM} {p B b : Nat} (h : zag tgA M M1) : zag (brA p B b) M M1 := h.mo (fun a k q => by unfold tgA at q; unfold brA exA; omega)
theorem brA_tk {M M1 : zM} {K V P : Nat → Int32} {c p B b : Nat} (h : zag (brA p B b) M M1) (hk : tkR M K V P c) : tkR M1 K V P c := hk.eq (fun a i q1 q2 => h a i (by unfold brA exA; omega))
def lenB (g : Option (zEx × zEx) × zEx) : Nat := (inB g).length
def lyB (M : zM) (b p : Nat) : Option (zEx × zEx) × zEx → Prop
  | (none, e) => M 260 b = 0 ∧ M 263 b = nI p ∧ M 264 b = nI (p + e.length) ∧ zCd M p e
  | (some (u, v), e) => M 260 b = 1 ∧ M 261 b = nI p ∧ M 262 b = nI (p + u.length) ∧ M 263 b = nI (p + u.length + v.length) ∧ M 264 b = nI (p + u.length + v.length + e.length) ∧ zCd M p u ∧ zCd M (p + u.length) v ∧ zCd M (p + u.length + v.length) e
section REF
variable {R : zR} {M M1 : zM} {K V P : Nat → Int32} {c t p B b : Nat} {f : tF}
theorem X12_exprD (h : FR P f M) : zT (f_X12_expression R M 242) (fun M1 => FR P f M1 ∧ zag (fun a k => a = 242 ∧ k = 41) M M1) := by
  unfold f_X12_expression
  refine zT_lt ?_
  have h1 : FR P f (zup M 242 41 0) := h.eq (zup_k (by omega)) (zup_k (by omega))
  have g : zag (fun a k => a = 242 ∧ k = 41) M (zup M 242 41 0) := zag.rf.up ⟨rfl, rfl⟩
  generalize zup M 242 41 0 = M2 at h1 g ⊢
  refine zT_bd (zT_loop (fun _ v => v = (1, M2)) 0 rfl (by omega) ?_)
  rintro m v rfl
  unfold b_X12_expression_12
  exact zT_if0 (show ¬ (1 : Int32) = 0 by decide) (zT_if0 h1.ne.1 (zT_some (zT_some ⟨h1, g⟩)))
theorem X12_termD (hR : zMd R) (h : FR P f M) (h31 : M 242 31 = nI b) (hb : b < 260) : zT (f_X12_term R M 242) (fun M1 => FR P f M1 ∧ M1 242 31 = nI (b + 1) ∧ zag (fun a k => ((a = 263 ∨ a = 264) ∧ k = b) ∨ (a = 242 ∧ k = 31)) M M1) := by
  unfold f_X12_term j_X12_term_24
  rw [h31, hR.at (k := 35) (b := 263) rfl (by decide), hR.at (k := 36) (b := 264) rfl (by decide), ztn_nI (by omega)]
  have h1 : FR P f (zup M 263 b (M 242 37)) := h.eq (zup_a (by omega)) (zup_a (by omega))
  have e1 : zup M 263 b (M 242 37) 242 31 = nI b := by rw [zup_a (by omega)]; exact h31
  refine zT_ck (zin_nI hb (by omega)) (zT_lt (zT_if0 h1.ne.1 ?_))
  rw [e1, ztn_nI (by omega)]
  refine zT_ck (zin_nI hb (by omega)) (zT_lt (zT_lt (zT_some ⟨?_, ?_, ((zag.rf.up (by omega)).up (by omega)).up (by omega)⟩)))
  · exact h1.eq (by rw [zup_k (by omega), zup_a (by omega)]) (by rw [zup_k (by omega), zup_a (by omega)])
  · rw [zup_same, zup_a (by omega), e1, nI_1]
theorem X12_term (hR : zMd R) (hk : tkR M K V P c) (hK : endS K c) (hal : AR t M) (ht : t ≤ c) (h12 : M 242 12 = 0) (h37 : M 242 37 = nI p) (hB : p ≤ B + t) (hB2 : B + 420 ≤ 840) (h31 : M 242 31 = nI b) (hb : b < 260) : zT (f_X12_term R M 242) (fun M1 => M1 242 31 = nI (b + 1) ∧ zag (teA p B b) M M1 ∧ ((∃ f, exS K V t = .inl f ∧ FR P f M1) ∨ (∃ r, exS K V t = .inr r ∧ AR r.1 M1 ∧ M1 242 12 = 0 ∧ M1 242 37 = nI (p + r.2.length) ∧ zCd M1 p r.2 ∧ M1 263 b = nI p ∧ M1 264 b = nI (p + r.2.length)))) := by
  unfold f_X12_term
  rw [h31, hR.at (k := 35) (b := 263) rfl (by decide), ztn_nI (by omega), h37]
  have g1 : zag (teA p B b) M (zup M 263 b (nI p)) := zag.rf.up (by unfold teA; omega)
  have vO : ∀ a k, a ≠ 263 → zup M 263 b (nI p) a k = M a k := fun a k h => zup_a h
  have v3 : zup M 263 b (nI p) 263 b = nI p := zup_same
  refine zT_ck (zin_nI hb (by omega)) (zT_lt ?_)
  generalize zup M 263 b (nI p) = M2 at g1 vO v3 ⊢
  refine zT_if1 (by rw [vO _ _ (by omega)]; exact hal.2) (zT_bd (zT_w (X12_expr hR (hk.eq (fun a i q1 q2 => vO a i (by omega))) hK (t := t) ⟨by rw [vO _ _ (by omega)]; exact hal.1, by rw [vO _ _ (by omega)]; exact hal.2⟩ ht (by rw [vO _ _ (by omega)]; exact h12) (by rw [vO _ _ (by omega)]; exact h37) hB hB2) ?_))
  intro M3 h3
  have g3 : zag (exA p B) M2 M3 := by
    rcases h3 with ⟨f, _, g, _⟩ | ⟨r, _, _, _, _, _, g⟩
    · exact g
    · exact g
  have e31 : M3 242 31 = nI b := by rw [g3 242 31 (by unfold exA; omega), vO _ _ (by omega)]; exact h31
  have e263 : M3 263 b = nI p := by rw [g3 263 b (by unfold exA; omega)]; exact v3
  unfold j_X12_term_24
  rw [e31, hR.at (k := 36) (b := 264) rfl (by decide), ztn_nI (by omega)]
  have g03 : zag (teA p B b) M M3 := g1.tr (g3.mo (fun a k q => Or.inl q))
  refine zT_ck (zin_nI hb (by omega)) (zT_lt (zT_lt (zT_some ?_)))
  have x31 : zup M3 264 b (M3 242 37) 242 31 = nI b := by rw [zup_a (by omega)]; exact e31
  rw [x31, nI_1]
  have g04 : zag (teA p B b) M (zup (zup M3 264 b (M3 242 37)) 242 31 (nI (b + 1))) := (g03.up (by unfold teA; omega)).up (by unfold teA; omega)
  have w2 : ∀ k, k ≠ 31 → zup (zup M3 264 b (M3 242 37)) 242 31 (nI (b + 1)) 242 k = M3 242 k := fun k h => by rw [zup_k h, zup_a (by omega)]
  have wO : ∀ a k, a ≠ 242 → a ≠ 264 → zup (zup M3 264 b (M3 242 37)) 242 31 (nI (b + 1)) a k = M3 a k := fun a k h h2 => by rw [zup_a h, zup_a h2]
  have w264 : zup (zup M3 264 b (M3 242 37)) 242 31 (nI (b + 1)) 264 b = M3 242 37 := by rw [zup_a (by omega), zup_same]
  refine ⟨zup_same, g04, ?_⟩
  rcases h3 with ⟨f, h4, _, e⟩ | ⟨r, e, a1, a2, a3, a4, _⟩
  · exact Or.inl ⟨f, e, h4.eq (w2 13 (by omega)) (w2 14 (by omega))⟩
  · exact Or.inr ⟨r, e, ⟨(w2 11 (by omega)).trans a1.1, (w2 13 (by omega)).trans a1.2⟩, (w2 12 (by omega)).trans a2, (w2 37 (by omega)).trans a3, zCd.eq (fun k => wO 265 k (by omega) (by omega)) (fun k => wO 266 k (by omega) (by omega)) _ _ a4, (wO 263 b (by omega) (by omega)).trans e263, w264.trans a3⟩
/-- after a fault -/
def brD (P : Nat → Int32) (p B b n : Nat) (M : zM) (f : tF) (M1 : zM) : Prop := FR P f M1 ∧ M1 242 31 = nI n ∧ zag (brA p B b) M M1
theorem X12_braD3 (hR : zMd R) (h : brD P p B b b M f M1) (hb : b < 260) (x1 x2 x3 : Int32) : zT (j_X12_tellLaw_110 R M1 242 x1 x2 x3) (fun r => ∃ M2, r = .inl (x3, M2) ∧ brD P p B b (b + 1) M f M2) := by
  obtain ⟨h1, h2, h3⟩ := h
  unfold j_X12_tellLaw_110
  refine zT_bd (zT_eq (X12_mustD h1 31) (zT_bd (zT_w (X12_termD hR h1 h2 hb) ?_)))
  rintro M2 ⟨a1, a2, g⟩
  exact zT_bd (zT_eq (X12_mustD a1 32) (zT_some ⟨M2, rfl, a1, a2, h3.tr (g.mo (fun a k q => by unfold brA; omega))⟩))
theorem X12_braD2 (hR : zMd R) (h : brD P p B b b M f M1) (hb : b < 260) (x1 x2 x3 : Int32) : zT (zck (zin (M1 242 31) 260) <| zlt (zup M1 (R 242 34) (ztn (M1 242 31)) (M1 242 37)) fun M20 => if (M20 242 13) = 0 then (zbd (f_X12_expression R M20 242) fun M28 => j_X12_tellLaw_110 R M28 242 x1 x2 x3) else j_X12_tellLaw_110 R M20 242 x1 x2 x3) (fun r => ∃ M2, r = .inl (x3, M2) ∧ brD P p B b (b + 1) M f M2) := by
  obtain ⟨h1, h2, h3⟩ := h
  rw [h2, hR.at (k := 34) (b := 262) rfl (by decide), ztn_nI (by omega)]
  have h4 : brD P p B b b M f (zup M1 262 b (M1 242 37)) := ⟨h1.eq (zup_a (by omega)) (zup_a (by omega)), by rw [zup_a (by omega)]; exact h2, h3.up (by unfold brA; omega)⟩
  exact zT_ck (zin_nI hb (by omega)) (zT_lt (zT_if0 h4.1.ne.1 (X12_braD3 hR h4 hb x1 x2 x3)))
/-- a branch -/
theorem X12_branch (hR : zMd R) (hk : tkR M K V P c) (hK : endS K c) (hV : valS K V c) (hal : AR t M) (ht : t ≤ c) (h30 : K t = 30) (h12 : M 242 12 = 0) (h37 : M 242 37 = nI p) (hB : p ≤ B + t) (hB2 : B + 420 ≤ 840) (h31 : M 242 31 = nI b) (hb : b < 260) (x1 x2 x3 : Int32) : zT (j_X12_tellLaw_38 R M 242 x1 x2 x3) (fun r => ∃ M1, r = .inl (x3 + 1, M1) ∧ M1 242 31 = nI (b + 1) ∧ zag (brA p B b) M M1 ∧ ((∃ f, braS K V t = .inl f ∧ FR P f M1) ∨ (∃ r, braS K V t = .inr r ∧ AR r.1 M1 ∧ M1 242 12 = 0 ∧ M1 242 37 = nI (p + lenB r.2) ∧ lyB M1 b p r.2))) := by
  have bad : ∀ {f : tF}, braS K V t = .inl f → ∀ r : (Int32 × zM) ⊕ (zM ⊕ zM), (∃ M2, r = .inl (x3 + 1, M2) ∧ brD P p B b (b + 1) M f M2) → ∃ M1, r = .inl (x3 + 1, M1) ∧ M1 242 31 = nI (b + 1) ∧ zag (brA p B b) M M1 ∧ ((∃ f, braS K V t = .inl f ∧ FR P f M1) ∨ (∃ r, braS K V t = .inr r ∧ AR r.1 M1 ∧ M1 242 12 = 0 ∧ M1 242 37 = nI (p + lenB r.2) ∧ lyB M1 b p r.2)) := fun e r h => by
    obtain ⟨M2, q, h1, h2, h3⟩ := h
    exact ⟨M2, q, h2, h3, Or.inl ⟨_, e, h1⟩⟩
  unfold j_X12_tellLaw_38
  refine zT_if1 (by rw [hal.2]; decide) (zT_bd (zT_w (X12_go hR hk hal ht) ?_))
  rintro M2 ⟨hm, g2⟩
  have i31 : M2 242 31 = nI b := by rw [g2 242 31 (by unfold tgA; omega)]; exact h31
  have i37 : M2 242 37 = nI p := by rw [g2 242 37 (by unfold tgA; omega)]; exact h37
  rw [i31, hR.at (k := 32) (b := 260) rfl (by decide), hR.at (k := 33) (b := 261) rfl (by decide), ztn_nI (by omega)]
  have j31 : zup M2 260 b 1 242 31 = nI b := by rw [zup_a (by omega)]; exact i31
  have j37 : zup M2 260 b 1 242 37 = nI p := by rw [zup_a (by omega)]; exact i37
  refine zT_ck (zin_nI hb (by omega)) (zT_lt ?_)
  rw [j31, j37, ztn_nI (by omega)]
  have g3 : zag (brA p B b) M (zup (zup M2 260 b 1) 261 b (nI p)) := ((tgA_br g2).up (by unfold brA; omega)).up (by unfold brA; omega)
  have v0 : zup (zup M2 260 b 1) 261 b (nI p) 260 b = 1 := by rw [zup_a (by omega), zup_same]
  have v1 : zup (zup M2 260 b 1) 261 b (nI p) 261 b = nI p := zup_same
  have vO : ∀ a k, a ≠ 260 → a ≠ 261 → zup (zup M2 260 b 1) 261 b (nI p) a k = M2 a k := fun a k h1 h2 => by rw [zup_a h2, zup_a h1]
  refine zT_ck (zin_nI hb (by omega)) (zT_lt ?_)
  generalize zup (zup M2 260 b 1) 261 b (nI p) = M3 at g3 v0 v1 vO ⊢
  have k31 : M3 242 31 = nI b := (vO _ _ (by omega) (by omega)).trans i31
  have k37 : M3 242 37 = nI p := (vO _ _ (by omega) (by omega)).trans i37
  cases e1 : goS t with
  | inl f =>
    rw [e1] at hm
    have h3 : FR P f M3 := hm.eq (vO _ _ (by omega) (by omega)) (vO _ _ (by omega) (by omega))
    refine zT_bd (zT_w (X12_exprD h3) ?_)
    rintro M4 ⟨h4, g4⟩
    refine zT_bd (zT_eq (X12_mustD h4 13) (zT_w (X12_braD2 hR (p := p) (B := B) (M := M) ⟨h4, by rw [g4 242 31 (by omega)]; exact k31, g3.tr (g4.mo (fun a k q => by unfold brA exA; omega))⟩ hb x1 x2 (x3 + 1)) (bad (sB_l e1))))
  | inr t1 =>
  rw [e1] at hm
  obtain ⟨l1, b1⟩ := goS_ok hK ht (by rw [h30]; decide) e1
  have al3 : AR t1 M3 := ⟨(vO _ _ (by omega) (by omega)).trans hm.1, (vO _ _ (by omega) (by omega)).trans hm.2⟩
  have k12 : M3 242 12 = 0 := by rw [vO _ _ (by omega) (by omega), g2 242 12 (by unfold tgA; omega)]; exact h12
  refine zT_bd (zT_w (X12_expr hR (brA_tk g3 hk) hK al3 b1 k12 k37 (B := B) (by omega) hB2) ?_)
  rintro M4 (⟨f, h4, g4, e2⟩ | ⟨r2, e2, al4, m12, m37, m4, g4⟩)
  · refine zT_bd (zT_eq (X12_mustD h4 13) (zT_w (X12_braD2 hR (p := p) (B := B) (M := M) ⟨h4, by rw [g4 242 31 (by unfold exA; omega)]; exact k31, g3.tr (exA_br g4 (Nat.le_refl _))⟩ hb x1 x2 (x3 + 1)) (bad ((sB_r e1).trans (sB_l e2)))))
  obtain ⟨_, l2, b2, n2⟩ := exS_ok hV hK b1 e2
  have g04 : zag (brA p B b) M M4 := g3.tr (exA_br g4 (Nat.le_refl _))
  refine zT_bd (zT_w (X12_must hR (brA_tk g04 hk) al4 b2 13) ?_)
  rintro M5 ⟨hm5, g5⟩
  have g05 : zag (brA p B b) M M5 := g04.tr (tgA_br g5)
  have n31 : M5 242 31 = nI b := by rw [g5 242 31 (by unfold tgA; omega), g4 242 31 (by unfold exA; omega)]; exact k31
  have n37 : M5 242 37 = nI (p + r2.2.length) := by rw [g5 242 37 (by unfold tgA; omega)]; exact m37
  have n12 : M5 242 12 = 0 := by rw [g5 242 12 (by unfold tgA; omega)]; exact m12
  cases e3 : mustS K 13 r2.1 with
  | inl f =>
    rw [e3] at hm5
    exact zT_w (X12_braD2 hR (p := p) (B := B) (M := M) ⟨hm5, n31, g05⟩ hb x1 x2 (x3 + 1)) (bad ((sB_r e1).trans ((sB_r e2).trans (sB_l e3))))
  | inr t3 =>
  rw [e3] at hm5
  obtain ⟨l3, b3, _⟩ := mustS_ok (by decide) hK b2 e3
  rw [n31, n37, hR.at (k := 34) (b := 262) rfl (by decide), ztn_nI (by omega)]
  refine zT_ck (zin_nI hb (by omega)) (zT_lt ?_)
  have g06 : zag (brA p B b) M (zup M5 262 b (nI (p + r2.2.length))) := g05.up (by unfold brA; omega)
  have u2 : zup M5 262 b (nI (p + r2.2.length)) 262 b = nI (p + r2.2.length) := zup_same
  have uO : ∀ a k, a ≠ 262 → zup M5 262 b (nI (p + r2.2.length)) a k = M5 a k := fun a k h => zup_a h
  generalize zup M5 262 b (nI (p + r2.2.length)) = M6 at g06 u2 uO ⊢
  have al6 : AR t3 M6 := ⟨(uO _ _ (by omega)).trans hm5.1, (uO _ _ (by omega)).trans hm5.2⟩
  refine zT_if1 al6.2 (zT_bd (zT_w (X12_expr hR (brA_tk g06 hk) hK al6 b3 ((uO _ _ (by omega)).trans n12) ((uO _ _ (by omega)).trans n37) (B := B) (by omega) hB2) ?_))
  rintro M7 (⟨f, h7, g7, e4⟩ | ⟨r4, e4, al7, o12, o37, o4, g7⟩)
  · exact zT_w (X12_braD3 hR (p := p) (B := B) (M := M) ⟨h7, by rw [g7 242 31 (by unfold exA; omega), uO _ _ (by omega)]; exact n31, g06.tr (exA_br g7 (by omega))⟩ hb x1 x2 (x3 + 1)) (bad ((sB_r e1).trans ((sB_r e2).trans ((sB_r e3).trans (sB_l e4)))))
  obtain ⟨_, l4, b4, n4⟩ := exS_ok hV hK b3 e4
  have g07 : zag (brA p B b) M M7 := g06.tr (exA_br g7 (by omega))
  have o31 : M7 242 31 = nI b := by rw [g7 242 31 (by unfold exA; omega), uO _ _ (by omega)]; exact n31
  unfold j_X12_tellLaw_110
  refine zT_bd (zT_w (X12_must hR (brA_tk g07 hk) al7 b4 31) ?_)
  rintro M8 ⟨hm8, g8⟩
  have g08 : zag (brA p B b) M M8 := g07.tr (tgA_br g8)
  have p31 : M8 242 31 = nI b := by rw [g8 242 31 (by unfold tgA; omega)]; exact o31
  cases e5 : mustS K 31 r4.1 with
  | inl f =>
    rw [e5] at hm8
    refine zT_bd (zT_w (X12_termD hR hm8 p31 hb) ?_)
    rintro M9 ⟨a1, a2, g9⟩
    exact zT_bd (zT_eq (X12_mustD a1 32) (zT_some (bad ((sB_r e1).trans ((sB_r e2).trans ((sB_r e3).trans ((sB_r e4).trans (sB_l e5))))) _ ⟨M9, rfl, a1, a2, g08.tr (g9.mo (fun a k q => by unfold brA; omega))⟩)))
  | inr t5 =>
  rw [e5] at hm8
  obtain ⟨l5, b5, _⟩ := mustS_ok (by decide) hK b4 e5
  refine zT_bd (zT_w (X12_term hR (brA_tk g08 hk) hK hm8 b5 (by rw [g8 242 12 (by unfold tgA; omega)]; exact o12) (p := p + r2.2.length + r4.2.length) (by rw [g8 242 37 (by unfold tgA; omega)]; exact o37) (B := B) (by omega) hB2 p31 hb) ?_)
  rintro M9 ⟨q31, g9, hq⟩
  have g09 : zag (brA p B b) M M9 := g08.tr (teA_br g9 (by omega))
  rcases hq with ⟨f, e6, h9⟩ | ⟨r6, e6, al9, q12, q37, q4, q263, q264⟩
  · exact zT_bd (zT_eq (X12_mustD h9 32) (zT_some (bad ((sB_r e1).trans ((sB_r e2).trans ((sB_r e3).trans ((sB_r e4).trans ((sB_r e5).trans (sB_l e6)))))) _ ⟨M9, rfl, h9, q31, g09⟩)))
  obtain ⟨_, l6, b6, n6⟩ := exS_ok hV hK b5 e6
  refine zT_bd (zT_w (X12_must hR (brA_tk g09 hk) al9 b6 32) ?_)
  rintro M10 ⟨hm10, g10⟩
  have g010 : zag (brA p B b) M M10 := g09.tr (tgA_br g10)
  have x31 : M10 242 31 = nI (b + 1) := by rw [g10 242 31 (by unfold tgA; omega)]; exact q31
  refine zT_some ?_
  cases e7 : mustS K 32 r6.1 with
  | inl f =>
    rw [e7] at hm10
    exact bad ((sB_r e1).trans ((sB_r e2).trans ((sB_r e3).trans ((sB_r e4).trans ((sB_r e5).trans ((sB_r e6).trans (sB_l e7))))))) _ ⟨M10, rfl, hm10, x31, g010⟩
  | inr t7 =>
  rw [e7] at hm10
  have hres : braS K V t = .inr (t7, (some (r2.2, r4.2), r6.2)) := (sB_r e1).trans ((sB_r e2).trans ((sB_r e3).trans ((sB_r e4).trans ((sB_r e5).trans ((sB_r e6).trans (sB_r e7))))))
  have c9 : ∀ a k, a ≠ 242 → M10 a k = M9 a k := fun a k h => g10 a k (by unfold tgA; omega)
  have c8 : ∀ a k, a ≠ 242 → M8 a k = M7 a k := fun a k h => g8 a k (by unfold tgA; omega)
  have c5 : ∀ a k, a ≠ 242 → M5 a k = M4 a k := fun a k h => g5 a k (by unfold tgA; omega)
  have x0 : M10 260 b = 1 := by rw [c9 _ _ (by omega), g9 260 b (by unfold teA exA; omega), c8 _ _ (by omega), g7 260 b (by unfold exA; omega), uO _ _ (by omega), c5 _ _ (by omega), g4 260 b (by unfold exA; omega)]; exact v0
  have x1' : M10 261 b = nI p := by rw [c9 _ _ (by omega), g9 261 b (by unfold teA exA; omega), c8 _ _ (by omega), g7 261 b (by unfold exA; omega), uO _ _ (by omega), c5 _ _ (by omega), g4 261 b (by unfold exA; omega)]; exact v1
  have x2' : M10 262 b = nI (p + r2.2.length) := by rw [c9 _ _ (by omega), g9 262 b (by unfold teA exA; omega), c8 _ _ (by omega), g7 262 b (by unfold exA; omega)]; exact u2
  have zu : zCd M10 p r2.2 := zCd.eqr _ _ (fun a k q1 q2 q3 q4 => by rw [c9 _ _ (by omega), g9 a k (by unfold teA exA; omega), c8 _ _ (by omega), g7 a k (by unfold exA; omega), uO _ _ (by omega), c5 _ _ (by omega)]) m4
  have zv : zCd M10 (p + r2.2.length) r4.2 := zCd.eqr _ _ (fun a k q1 q2 q3 q4 => by rw [c9 _ _ (by omega), g9 a k (by unfold teA exA; omega), c8 _ _ (by omega)]) o4
  have ze : zCd M10 (p + r2.2.length + r4.2.length) r6.2 := zCd.eqr _ _ (fun a k q1 q2 q3 q4 => c9 _ _ (by omega)) q4
  refine ⟨M10, rfl, x31, g010, Or.inr ⟨_, hres, hm10, by rw [g10 242 12 (by unfold tgA; omega)]; exact q12, ?_, x0, x1', x2', (c9 _ _ (by omega)).trans q263, (c9 _ _ (by omega)).trans q264, zu, zv, ze⟩⟩
  rw [g10 242 37 (by unfold tgA; omega), q37]
  have : lenB (some (r2.2, r4.2), r6.2) = r2.2.length + (r4.2.length + r6.2.length) := by
    unfold lenB inB
    rw [List.length_append, List.length_append]
  rw [this, show p + (r2.2.length + (r4.2.length + r6.2.length)) = p + r2.2.length + r4.2.length + r6.2.length by omega]
end REF

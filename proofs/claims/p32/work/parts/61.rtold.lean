/-! READ, on the reference's side: what is told so far -/
def reA (l : Nat) : Nat → Nat → Prop := fun a k => exA (420 * l) (420 * l) a k ∨ (a = 242 ∧ (k = 15 ∨ k = 16 ∨ k = 20 ∨ k = 31)) ∨ (a = 251 ∧ k = l) ∨ (a = 252 ∧ 10 * l ≤ k ∧ k < 10 * l + 10) ∨ (253 ≤ a ∧ a ≤ 257 ∧ k = l) ∨ ((a = 258 ∨ a = 259) ∧ (k = 2 * l ∨ k = 2 * l + 1)) ∨ (260 ≤ a ∧ a ≤ 264 ∧ 130 * l ≤ k ∧ k < 130 * l + 130)
def prR (M : zM) (l i k fc pc : Nat) (Q : zPr) : Prop := (M 258 i = M 259 i ∧ Q = dflt k) ∨ (Q ≠ [] ∧ ∃ f p, M 258 i = nI f ∧ M 259 i = nI (f + Q.length) ∧ 130 * l ≤ f ∧ f + Q.length ≤ fc ∧ 420 * l ≤ p ∧ p + lenP Q ≤ pc ∧ lyZ M f p Q)
def reN (l : Nat) (V : Nat → Int32) (L : zL) (ns : List Nat) (M1 : zM) (L1 : zL) : Prop := M1 251 l = nI ns.length ∧ M1 242 20 = nI ns.length ∧ ∀ j, j < ns.length → L1 250 j = L 248 (ns.getD j 0) ∧ M1 252 (10 * l + j) = V (ns.getD j 0 + 1)
def reU (l : Nat) (ru : zRu) (M1 : zM) : Prop := M1 253 l = ruS ru ∧ M1 254 l = ruT ru ∧ M1 255 l = ruH ru ∧ M1 256 l = ruE ru ∧ M1 257 l = ruD ru
def reC (l t : Nat) (ru : zRu) (M1 : zM) : Prop := ∃ fc pc, M1 242 31 = nI fc ∧ M1 242 37 = nI pc ∧ 130 * l ≤ fc ∧ 420 * l ≤ pc ∧ pc ≤ 420 * l + t ∧ 4 * fc ≤ 520 * l + t ∧ prR M1 l (2 * l) 0 fc pc (ruP ru) ∧ prR M1 l (2 * l + 1) 1 fc pc (ruQ ru)
def wsR (P : Nat → Int32) (t : Nat) (w : Option tF) (M : zM) : Prop := match w with
  | none => M 242 15 = 0
  | some e => (e.1 = 3 ∨ e.1 = 5) ∧ M 242 15 = nI e.1 ∧ M 242 16 = P e.2 ∧ e.2 < t
def reS (l : Nat) (K V P : Nat → Int32) (c : Nat) (M : zM) (L : zL) (t : Nat) (x : zTx) (M1 : zM) (L1 : zL) : Prop := AR t M1 ∧ t ≤ c ∧ xOk K c x ∧ (M1 242 12 = 0 ∧ M1 242 19 = nI l) ∧ reN l V L x.1 M1 L1 ∧ reU l x.2.1 M1 ∧ reC l t x.2.1 M1 ∧ wsR P t x.2.2 M1 ∧ zag (reA l) M M1 ∧ ∀ b j, b ≠ 250 → L1 b j = L b j
def reD (l : Nat) (P : Nat → Int32) (M : zM) (L : zL) (f : tF) (M1 : zM) (L1 : zL) : Prop := FR P f M1 ∧ zag (reA l) M M1 ∧ ∀ b j, b ≠ 250 → L1 b j = L b j
def reO (l : Nat) (K V P : Nat → Int32) (c : Nat) (M : zM) (L : zL) (res : tF ⊕ (Nat × zTx)) (M1 : zM) (L1 : zL) : Prop := (∃ f, res = .inl f ∧ reD l P M L f M1 L1) ∨ (∃ r, res = .inr r ∧ reS l K V P c M L r.1 r.2 M1 L1)
theorem prR.eq {M M1 : zM} {l i k fc pc fc1 pc1 : Nat} {Q : zPr} (h : prR M l i k fc pc Q) (h0 : M1 258 i = M 258 i ∧ M1 259 i = M 259 i) (h1 : ∀ a j, 260 ≤ a → a ≤ 264 → 130 * l ≤ j → j < fc → M1 a j = M a j) (h2 : ∀ a j, 265 ≤ a → a ≤ 266 → 420 * l ≤ j → j < pc → M1 a j = M a j) (hf : fc ≤ fc1) (hp : pc ≤ pc1) : prR M1 l i k fc1 pc1 Q := by
  rcases h with ⟨a, b⟩ | ⟨a, f, p, b1, b2, b3, b4, b5, b6, b7⟩
  · exact Or.inl ⟨by rw [h0.1, h0.2]; exact a, b⟩
  · exact Or.inr ⟨a, f, p, h0.1.trans b1, h0.2.trans b2, b3, by omega, b5, by omega, lyZ.eq _ _ _ b7 (fun a k q1 q2 q3 q4 => h1 a k q1 q2 (by omega) (by omega)) (fun a k q1 q2 q3 q4 => h2 a k q1 q2 (by omega) (by omega))⟩
theorem reC.eq {l t t1 : Nat} {ru : zRu} {M1 M2 : zM} (h : reC l t ru M1) (h0 : M2 242 31 = M1 242 31 ∧ M2 242 37 = M1 242 37) (h1 : ∀ a j, 258 ≤ a → a ≤ 266 → M2 a j = M1 a j) (ht : t ≤ t1) : reC l t1 ru M2 := by
  obtain ⟨fc, pc, a1, a2, a3, a4, a5, a6, a7, a8⟩ := h
  exact ⟨fc, pc, h0.1.trans a1, h0.2.trans a2, a3, a4, by omega, by omega, a7.eq ⟨h1 _ _ (by omega) (by omega), h1 _ _ (by omega) (by omega)⟩ (fun a j q1 q2 _ _ => h1 a j (by omega) (by omega)) (fun a j q1 q2 _ _ => h1 a j (by omega) (by omega)) (Nat.le_refl _) (Nat.le_refl _), a8.eq ⟨h1 _ _ (by omega) (by omega), h1 _ _ (by omega) (by omega)⟩ (fun a j q1 q2 _ _ => h1 a j (by omega) (by omega)) (fun a j q1 q2 _ _ => h1 a j (by omega) (by omega)) (Nat.le_refl _) (Nat.le_refl _)⟩
theorem wsR.eq {P : Nat → Int32} {t t1 : Nat} {w : Option tF} {M M1 : zM} (h : wsR P t w M) (h8 : M1 242 15 = M 242 15) (h9 : M1 242 16 = M 242 16) (ht : t ≤ t1) : wsR P t1 w M1 := by
  cases w with
  | none => exact h8.trans h
  | some e => exact ⟨h.1, h8.trans h.2.1, h9.trans h.2.2.1, by have := h.2.2.2; omega⟩
theorem reN.eq {l : Nat} {V : Nat → Int32} {L : zL} {ns : List Nat} {M1 M2 : zM} {L1 : zL} (h : reN l V L ns M1 L1) (h0 : M2 251 l = M1 251 l ∧ M2 242 20 = M1 242 20) (h1 : ∀ j, M2 252 j = M1 252 j) : reN l V L ns M2 L1 := ⟨h0.1.trans h.1, h0.2.trans h.2.1, fun j hj => ⟨(h.2.2 j hj).1, (h1 _).trans (h.2.2 j hj).2⟩⟩
theorem reU.eq {l : Nat} {ru : zRu} {M1 M2 : zM} (h : reU l ru M1) (h1 : ∀ a, 253 ≤ a → a ≤ 257 → M2 a l = M1 a l) : reU l ru M2 := ⟨(h1 _ (by omega) (by omega)).trans h.1, (h1 _ (by omega) (by omega)).trans h.2.1, (h1 _ (by omega) (by omega)).trans h.2.2.1, (h1 _ (by omega) (by omega)).trans h.2.2.2.1, (h1 _ (by omega) (by omega)).trans h.2.2.2.2⟩
section REF
variable {R : zR} {M M1 : zM} {L L1 : zL} {K V P : Nat → Int32} {c t l : Nat} {f : tF} {x : zTx}
theorem tgA_re (h : zag tgA M M1) : zag (reA l) M M1 := h.mo (fun a k q => by unfold tgA at q; unfold reA exA; omega)
theorem reS.tk (hk : tkR M K V P c) (h : reS l K V P c M L t x M1 L1) : tkR M1 K V P c := hk.eq (fun a i q1 q2 => h.2.2.2.2.2.2.2.2.1 a i (by unfold reA exA; omega))
theorem reD.mo {M2 : zM} (h : reD l P M L f M1 L1) (hf : FR P f M2) (g : zag (reA l) M1 M2) : reD l P M L f M2 L1 := ⟨hf, h.2.1.tr g, h.2.2⟩
/-- a token gone -/
theorem reS.tok {M2 : zM} {t2 : Nat} (h : reS l K V P c M L t x M1 L1) (ha : AR t2 M2) (g : zag tgA M1 M2) (h1 : t ≤ t2) (h2 : t2 ≤ c) : reS l K V P c M L t2 x M2 L1 := by
  obtain ⟨a1, a2, a3, a4, a5, a6, a7, a8, a9, a10⟩ := h
  have gO : ∀ a k, a ≠ 242 → M2 a k = M1 a k := fun a k h => g a k (by unfold tgA; omega)
  have g2 : ∀ k, k ≠ 11 → k ≠ 13 → k ≠ 14 → M2 242 k = M1 242 k := fun k q1 q2 q3 => g 242 k (by unfold tgA; omega)
  exact ⟨ha, h2, a3, ⟨(g2 12 (by omega) (by omega) (by omega)).trans a4.1, (g2 19 (by omega) (by omega) (by omega)).trans a4.2⟩, a5.eq ⟨gO _ _ (by omega), g2 20 (by omega) (by omega) (by omega)⟩ (fun j => gO _ j (by omega)), a6.eq (fun a q1 q2 => gO a _ (by omega)), a7.eq ⟨g2 31 (by omega) (by omega) (by omega), g2 37 (by omega) (by omega) (by omega)⟩ (fun a j q1 q2 => gO a j (by omega)) h1, a8.eq (g2 15 (by omega) (by omega) (by omega)) (g2 16 (by omega) (by omega) (by omega)) h1, a9.tr (tgA_re g), a10⟩
theorem reS.must (hR : zMd R) (hk : tkR M K V P c) (hK : endS K c) (h : reS l K V P c M L t x M1 L1) (d : Int32) (hd : d ≠ 0) : zT (f_X12_must R M1 242 d) (fun M2 => (∃ f, mustS K d t = .inl f ∧ reD l P M L f M2 L1) ∨ (∃ t1, mustS K d t = .inr t1 ∧ reS l K V P c M L t1 x M2 L1)) := by
  refine zT_w (X12_must hR (h.tk hk) h.1 h.2.1 d) ?_
  rintro M2 ⟨hm, g⟩
  cases e : mustS K d t with
  | inl f =>
    rw [e] at hm
    exact Or.inl ⟨f, rfl, hm, h.2.2.2.2.2.2.2.2.1.tr (tgA_re g), h.2.2.2.2.2.2.2.2.2⟩
  | inr t1 =>
    rw [e] at hm
    obtain ⟨e1, e2, _⟩ := mustS_ok hd hK h.2.1 e
    exact Or.inr ⟨t1, rfl, h.tok hm g (by omega) e2⟩
theorem reS.go (hR : zMd R) (hk : tkR M K V P c) (hK : endS K c) (h : reS l K V P c M L t x M1 L1) (h0 : K t ≠ 0) : zT (f_X12_goesOn R M1 242) (fun M2 => (∃ f, goS t = .inl f ∧ reD l P M L f M2 L1) ∨ (goS t = .inr (t + 1) ∧ reS l K V P c M L (t + 1) x M2 L1)) := by
  refine zT_w (X12_go hR (h.tk hk) h.1 h.2.1) ?_
  rintro M2 ⟨hm, g⟩
  cases e : goS t with
  | inl f =>
    rw [e] at hm
    exact Or.inl ⟨f, rfl, hm, h.2.2.2.2.2.2.2.2.1.tr (tgA_re g), h.2.2.2.2.2.2.2.2.2⟩
  | inr t1 =>
    rw [e] at hm
    obtain ⟨rfl, e2⟩ := goS_ok hK h.2.1 h0 e
    exact Or.inr ⟨rfl, h.tok hm g (by omega) e2⟩
theorem reS.fail (hR : zMd R) (hk : tkR M K V P c) (h : reS l K V P c M L t x M1 L1) {k : Nat} (hk2 : k = 1 ∨ k = 2) : zT (f_X12_fail R M1 242 (nI k)) (fun M2 => reD l P M L (k, t) M2 L1) := by
  refine zT_w (X12_fail hR (h.tk hk) h.1 h.2.1 hk2) ?_
  rintro M2 ⟨h1, g⟩
  exact ⟨h1, h.2.2.2.2.2.2.2.2.1.tr (g.mo (fun a k q => by unfold reA exA; omega)), h.2.2.2.2.2.2.2.2.2⟩
/-- a lesser fault -/
theorem X12_wrong (hR : zMd R) (hk : tkR M1 K V P c) (hP : ∀ i j, i < j → j ≤ c → P i < P j) {w : Option tF} {k i t1 : Nat} (hw : wsR P t1 w M1) (h13 : M1 242 13 = 0) (hi : i ≤ c) (hk2 : k = 3 ∨ k = 5) (hlt : i < t1) (hwi : ∀ e, w = some e → e.2 < i ∨ e = (k, i)) : zT (f_X12_wrong R M1 242 (nI k) (nI i)) (fun M2 => wsR P t1 (laterS w k i) M2 ∧ zag (fun a j => a = 242 ∧ (j = 15 ∨ j = 16)) M1 M2) := by
  have c4 := hk.1
  unfold f_X12_wrong j_X12_wrong_46
  rw [hR.at (k := 6) (b := 246) rfl (by decide), ztn_nI (by omega), (hk.2 i hi).2.1]
  refine zT_ck (zin_nI (by omega) (by omega)) (zT_if0 (by rw [h13]; decide) ?_)
  cases w with
  | none =>
    refine zT_if1 hw (zT_lt (zT_lt (zT_some ⟨⟨hk2, ?_, zup_same, hlt⟩, (zag.rf.up (by omega)).up (by omega)⟩)))
    rw [zup_k (by omega), zup_same]
  | some e =>
    obtain ⟨w1, w2, w3, w4⟩ := id hw
    refine zT_if0 ?_ ?_
    · rw [w2]
      rcases w1 with q | q <;> rw [q] <;> decide
    rw [w3]
    rcases hwi e rfl with q | q
    · exact zT_if1 (hP _ _ q hi) (zT_some ⟨hw, zag.rf⟩)
    · subst q
      refine zT_if0 (Int32.lt_irrefl) (zT_if1 rfl (zT_if0 ?_ (zT_some ⟨hw, zag.rf⟩)))
      rw [w2]
      exact Int32.lt_irrefl
theorem X12_boundedD (h : FR P f M1) (x1 x2 : Int32) : f_X12_bounded R M1 242 x1 x2 = some (x1, M1) := by
  unfold f_X12_bounded j_X12_bounded_15 zbd
  rw [if_pos h.ne.2.2, X12_failD h]
/-- a number within its bounds -/
theorem reS.bounded (hR : zMd R) (hk : tkR M K V P c) (hK : endS K c) (hP : ∀ i j, i < j → j ≤ c → P i < P j) (h : reS l K V P c M L t x M1 L1) (hne : ∀ e, x.2.2 = some e → e.2 < t) (lo hi : Int32) : zT (f_X12_bounded R M1 242 lo hi) (fun p => (∃ f, mustS K 2 t = .inl f ∧ reD l P M L f p.2 L1) ∨ (mustS K 2 t = .inr (t + 1) ∧ p.1 = V t ∧ reS l K V P c M L (t + 1) (x.1, x.2.1, if V t < lo ∨ hi < V t then laterS x.2.2 5 t else x.2.2) p.2 L1)) := by
  have hk1 := h.tk hk
  have c4 := hk.1
  obtain ⟨a1, a2, a3, a4, a5, a6, a7, a8, a9, a10⟩ := id h
  unfold f_X12_bounded
  refine zT_if0 (by rw [a1.2]; decide) (zT_bd (zT_eq (X12_is hR hk1 a1 a2 2) ?_))
  by_cases c2 : K t = 2
  case neg =>
    rw [if_neg c2]
    unfold j_X12_bounded_15
    refine zT_if1 rfl (zT_bd (zT_w (h.fail hR hk (k := 1) (Or.inl rfl)) fun M2 q => zT_some (Or.inl ⟨(1, t), ?_, q⟩)))
    unfold mustS
    rw [if_neg c2]
  rw [if_pos c2]
  refine zT_if0 (by decide) ?_
  rw [hR.at (k := 7) (b := 247) rfl (by decide), a1.1, ztn_nI (by omega), (hk1.2 t a2).2.2 c2]
  refine zT_ck (zin_nI (by omega) (by omega)) ?_
  have m2 : mustS K 2 t = goS t := if_pos c2
  rw [m2]
  have last : ∀ {w : Option tF} {M2 : zM}, reS l K V P c M L t (x.1, x.2.1, w) M2 L1 → w = (if V t < lo ∨ hi < V t then laterS x.2.2 5 t else x.2.2) → zT (j_X12_bounded_51 R M2 242 (V t)) (fun p => (∃ f, goS t = .inl f ∧ reD l P M L f p.2 L1) ∨ (goS t = .inr (t + 1) ∧ p.1 = V t ∧ reS l K V P c M L (t + 1) (x.1, x.2.1, if V t < lo ∨ hi < V t then laterS x.2.2 5 t else x.2.2) p.2 L1)) := fun {w M2} h2 hw => by
    unfold j_X12_bounded_51
    rw [← hw]
    refine zT_bd (zT_w (h2.go hR hk hK (by rw [c2]; decide)) ?_)
    rintro M3 (⟨f, e, hd⟩ | ⟨e, hs⟩)
    · exact zT_some (Or.inl ⟨f, e, hd⟩)
    · exact zT_some (Or.inr ⟨e, rfl, hs⟩)
  have bad : V t < lo ∨ hi < V t → zT (j_X12_bounded_42 R M1 242 (V t)) (fun p => (∃ f, goS t = .inl f ∧ reD l P M L f p.2 L1) ∨ (goS t = .inr (t + 1) ∧ p.1 = V t ∧ reS l K V P c M L (t + 1) (x.1, x.2.1, if V t < lo ∨ hi < V t then laterS x.2.2 5 t else x.2.2) p.2 L1)) := fun hb => by
    unfold j_X12_bounded_42 j_X12_bounded_51
    rw [a1.1]
    refine zT_bd (zT_w (X12_wrong hR hk1 hP (k := 5) (i := t) (t1 := t + 1) (a8.eq rfl rfl (by omega)) a1.2 a2 (Or.inr rfl) (by omega) (fun e he => Or.inl (hne e he))) ?_)
    rintro M2 ⟨w2, g2⟩
    refine zT_bd (zT_w (X12_go hR (hk1.eq (fun a i q1 q2 => g2 a i (by omega))) (t := t) ⟨by rw [g2 242 11 (by omega)]; exact a1.1, by rw [g2 242 13 (by omega)]; exact a1.2⟩ a2) ?_)
    rintro M3 ⟨hm, g3⟩
    have gg : zag (reA l) M M3 := (a9.tr (g2.mo (fun a k q => by unfold reA; omega))).tr (tgA_re g3)
    refine zT_some ?_
    cases e : goS t with
    | inl f =>
      rw [e] at hm
      exact Or.inl ⟨f, rfl, hm, gg, a10⟩
    | inr t1 =>
      rw [e] at hm
      obtain ⟨rfl, e2⟩ := goS_ok hK a2 (by rw [c2]; decide) e
      rw [if_pos hb]
      have gO : ∀ a k, a ≠ 242 → M3 a k = M1 a k := fun a k h => by rw [g3 a k (by unfold tgA; omega), g2 a k (by omega)]
      have gT : ∀ k, k ≠ 11 → k ≠ 13 → k ≠ 14 → k ≠ 15 → k ≠ 16 → M3 242 k = M1 242 k := fun k q1 q2 q3 q4 q5 => by rw [g3 242 k (by unfold tgA; omega), g2 242 k (by omega)]
      obtain ⟨o1, o2, o3, o4, o5, o6⟩ := a3
      have ok : xOk K c (x.1, x.2.1, laterS x.2.2 5 t) := ⟨o1, o2, o3, o4, o5, fun z => absurd z laterS_n⟩
      exact Or.inr ⟨rfl, rfl, hm, e2, ok, ⟨(gT 12 (by omega) (by omega) (by omega) (by omega) (by omega)).trans a4.1, (gT 19 (by omega) (by omega) (by omega) (by omega) (by omega)).trans a4.2⟩, a5.eq ⟨gO _ _ (by omega), gT 20 (by omega) (by omega) (by omega) (by omega) (by omega)⟩ (fun j => gO _ j (by omega)), a6.eq (fun a q1 q2 => gO a _ (by omega)), a7.eq ⟨gT 31 (by omega) (by omega) (by omega) (by omega) (by omega), gT 37 (by omega) (by omega) (by omega) (by omega) (by omega)⟩ (fun a j q1 q2 => gO a j (by omega)) (by omega), w2.eq (g3 242 15 (by unfold tgA; omega)) (g3 242 16 (by unfold tgA; omega)) (Nat.le_refl _), gg, a10⟩
  by_cases v1 : V t < lo
  · exact zT_if1 v1 (bad (Or.inl v1))
  refine zT_if0 v1 ?_
  by_cases v2 : V t ≤ hi
  · refine zT_if1 v2 (last (w := x.2.2) h ?_)
    rw [if_neg]
    rintro (z | z)
    · exact v1 z
    · exact absurd (Int32.lt_of_lt_of_le z v2) (Int32.lt_irrefl)
  · exact zT_if0 v2 (bad (Or.inr (Int32.not_le.1 v2)))
end REF

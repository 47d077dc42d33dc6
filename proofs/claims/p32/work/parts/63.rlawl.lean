/-! READ, on the reference's side: a law's line -/
def lawK (K : Nat → Int32) (t k0 : Nat) : Prop := k0 = 0 ∧ K t = 23 ∨ k0 = 1 ∧ K t = 24
theorem lxA_re {f0 p0 l k0 : Nat} (q1 : 130 * l ≤ f0) (q2 : 420 * l ≤ p0) (hk : k0 < 2) {a k : Nat} (q : lxA f0 p0 l k0 a k) : reA l a k := by
  rcases q with (q | q | q) | q
  · refine Or.inl ?_
    rcases q with q | q | q
    · exact Or.inl ⟨q.1, Nat.le_trans q2 q.2.1, q.2.2⟩
    · exact Or.inr (Or.inl q)
    · exact Or.inr (Or.inr q)
  · exact Or.inr (Or.inr (Or.inr (Or.inr (Or.inr (Or.inr ⟨q.1, q.2.1, Nat.le_trans q1 q.2.2.1, q.2.2.2⟩)))))
  · exact Or.inr (Or.inl ⟨q.1, Or.inr (Or.inr (Or.inr q.2))⟩)
  · refine Or.inr (Or.inr (Or.inr (Or.inr (Or.inr (Or.inl ⟨q.1, ?_⟩)))))
    have := q.2
    clear q
    omega
section REF
variable {R : zR} {M M1 : zM} {L L1 : zL} {K V P : Nat → Int32} {E : Nat → Nat → Bool} {c t l : Nat} {f : tF} {x : zTx}
theorem X12_lawL (hR : zMd R) (hk : tkR M K V P c) (hK : endS K c) (hV : valS K V c) (hl : l < 2) (h : reS l K V P c M L t x M1 L1) {k0 : Nat} (hk0 : lawK K t k0) : zT (zbd (f_X12_goesOn R M1 242) fun M33 => zbd (f_X12_tellLaw R M33 242 (nI k0)) fun M35 => some (M35, L1)) (fun p => reO l K V P c M L (telS K V E t x) p.1 p.2) := by
  have c4 := hk.1
  have k2 : k0 < 2 := by
    rcases hk0 with ⟨q, _⟩ | ⟨q, _⟩
    · rw [q]; decide
    · rw [q]; decide
  have h0 : K t ≠ 0 := by rcases hk0 with ⟨_, q⟩ | ⟨_, q⟩ <;> rw [q] <;> decide
  obtain ⟨fc, pc, i31, i37, i3, i4, i5, i6, i7, i8⟩ := h.2.2.2.2.2.2.1
  have tc := h.2.1
  refine zT_bd (zT_w (X12_go19 hR hk hK h h0) ?_)
  rintro M2 ⟨⟨e19, _, e31⟩, hh⟩
  have hTl : ∀ f, lawS K V t = .inl f → telS K V E t x = .inl f := fun f hf => by
    rcases hk0 with ⟨q, q2⟩ | ⟨q, q2⟩
    · rw [telS_23 q2, sB_l hf]
    · rw [telS_24 q2, sB_l hf]
  have lxr : ∀ {f0 p0 : Nat} {M3 M4 : zM}, 130 * l ≤ f0 → 420 * l ≤ p0 → zag (lxA f0 p0 l k0) M3 M4 → zag (reA l) M3 M4 := fun q1 q2 g => g.mo (fun a k q => lxA_re q1 q2 k2 q)
  rcases hh with ⟨f, e, hd⟩ | ⟨e, hs⟩
  · refine zT_bd (zT_w (X12_lawD hR hl (k0 := k0) (b := fc) hd.1 (e31.trans i31) (by omega)) ?_)
    rintro M3 ⟨h3, g3⟩
    have el : lawS K V t = .inl f := sB_l e
    exact zT_some (Or.inl ⟨f, hTl f el, hd.mo h3 (lxr i3 (Nat.le_refl _) g3)⟩)
  obtain ⟨a1, a2, a3, a4, a5, a6, a7, a8, a9, a10⟩ := hs
  obtain ⟨fc, pc, i31, i37, i3, i4, i5, i6, i7, i8⟩ := a7
  have h6 : 4 * fc ≤ 520 * l + t := by
    obtain ⟨fc', pc', j31, j37, j3, j4, j5, j6, _⟩ := h.2.2.2.2.2.2.1
    have : fc' = fc := nI_inj (by omega) (by omega) (j31.symm.trans (e31.symm.trans i31))
    omega
  refine zT_bd (zT_w (X12_law hR (hk.eq (fun a i q1 q2 => a9 a i (by unfold reA exA; omega))) hK hV hl k2 a1 a2 a4.1 i37 i31 a4.2 i5 (by omega) i3) ?_)
  have eL : lawS K V t = sB (mustS K 5 (t + 1)) fun t2 => ifsS K V 5 t2 [] := sB_r e
  rintro M3 ⟨g3, hr⟩
  rw [← eL] at hr
  have g03 : zag (reA l) M M3 := a9.tr (lxr i3 i4 g3)
  rcases hr with ⟨f, e2, h3⟩ | ⟨r, e2, b1, b2, b3, b4, b5, b6, b7, b8, b9, b10⟩
  · exact zT_some (Or.inl ⟨f, hTl f e2, h3, g03, a10⟩)
  obtain ⟨d1, d2, d3, d4⟩ := lawS_ok hV hK tc h0 e2
  have gO : ∀ a k, a < 258 → a ≠ 242 → M3 a k = M2 a k := fun a k q1 q2 => g3 a k (by unfold lxA lwA exA; omega)
  have g2 : ∀ k, k = 15 ∨ k = 16 ∨ k = 19 ∨ k = 20 → M3 242 k = M2 242 k := fun k q => g3 242 k (by unfold lxA lwA exA; omega)
  have gB : ∀ a j, 260 ≤ a → a ≤ 264 → 130 * l ≤ j → j < fc → M3 a j = M2 a j := fun a j q1 q2 q3 q4 => g3 a j (by unfold lxA lwA exA; omega)
  have gC : ∀ a j, 265 ≤ a → a ≤ 266 → 420 * l ≤ j → j < pc → M3 a j = M2 a j := fun a j q1 q2 q3 q4 => g3 a j (by unfold lxA lwA exA; omega)
  obtain ⟨o1, o2, o3, o4, o5, o6⟩ := a3
  have hn : reN l V L x.1 M3 L1 := a5.eq ⟨gO _ _ (by omega) (by omega), g2 20 (by omega)⟩ (fun j => gO _ j (by omega) (by omega))
  have hw : wsR P r.1 x.2.2 M3 := a8.eq (g2 15 (by omega)) (g2 16 (by omega)) (by omega)
  have hu : reU l x.2.1 M3 := a6.eq (fun a q1 q2 => gO a _ (by omega) (by omega))
  have h19 : M3 242 19 = nI l := (g2 19 (by omega)).trans a4.2
  have own : prR M3 l (2 * l + k0) k0 (fc + r.2.length) (pc + lenP r.2) r.2 := Or.inr ⟨d2, fc, pc, b9, b10, i3, Nat.le_refl _, i4, Nat.le_refl _, b8⟩
  rcases hk0 with ⟨rfl, q2⟩ | ⟨rfl, q2⟩
  · have oth : prR M3 l (2 * l + 1) 1 (fc + r.2.length) (pc + lenP r.2) (ruQ x.2.1) := i8.eq ⟨g3 258 _ (by unfold lxA lwA exA; omega), g3 259 _ (by unfold lxA lwA exA; omega)⟩ gB gC (by omega) (by omega)
    have hok : xOk K c (x.1, (x.2.1.1, r.2, x.2.1.2.2), x.2.2) := ⟨o1, o2, d1, o4, o5, o6⟩
    have hc : reC l r.1 (x.2.1.1, r.2, x.2.1.2.2) M3 := ⟨fc + r.2.length, pc + lenP r.2, b4, b5, by omega, by omega, b6, b7, own, oth⟩
    have hfin : reS l K V P c M L r.1 (x.1, (x.2.1.1, r.2, x.2.1.2.2), x.2.2) M3 L1 := ⟨b1, b2, hok, ⟨b3, h19⟩, hn, hu, hc, hw, g03, a10⟩
    have hT : telS K V E t x = .inr (r.1, (x.1, (x.2.1.1, r.2, x.2.1.2.2), x.2.2)) := by rw [telS_23 q2, sB_r e2]
    exact zT_some (Or.inr ⟨_, hT, hfin⟩)
  · have oth : prR M3 l (2 * l) 0 (fc + r.2.length) (pc + lenP r.2) (ruP x.2.1) := i7.eq ⟨g3 258 _ (by unfold lxA lwA exA; omega), g3 259 _ (by unfold lxA lwA exA; omega)⟩ gB gC (by omega) (by omega)
    have hok : xOk K c (x.1, (x.2.1.1, x.2.1.2.1, r.2), x.2.2) := ⟨o1, o2, o3, d1, o5, o6⟩
    have hc : reC l r.1 (x.2.1.1, x.2.1.2.1, r.2) M3 := ⟨fc + r.2.length, pc + lenP r.2, b4, b5, by omega, by omega, b6, b7, oth, own⟩
    have hfin : reS l K V P c M L r.1 (x.1, (x.2.1.1, x.2.1.2.1, r.2), x.2.2) M3 L1 := ⟨b1, b2, hok, ⟨b3, h19⟩, hn, hu, hc, hw, g03, a10⟩
    have hT : telS K V E t x = .inr (r.1, (x.1, (x.2.1.1, x.2.1.2.1, r.2), x.2.2)) := by rw [telS_24 q2, sB_r e2]
    exact zT_some (Or.inr ⟨_, hT, hfin⟩)
end REF

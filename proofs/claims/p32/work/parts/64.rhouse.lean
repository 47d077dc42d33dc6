/-! READ, on the reference's side: a house's line -/
def houseT3 (R : zR) (L : zL) (x1 : Int32) (e12 : zM) (r14 : Int32) (M15 : zM) : Option (zM × zL) :=
  zck (zin (((10 : Int32) * (e12 242 19)) + (e12 (R 242 22) (ztn (e12 242 19)))) 20) <|
  zlt (zup M15 (R 242 23) (ztn (((10 : Int32) * (e12 242 19)) + (e12 (R 242 22) (ztn (e12 242 19))))) r14) fun M18 =>
  zbd (f_X12_must R M18 242 (4 : Int32)) fun M19 =>
  if (M19 242 13) ≤ 0 then (
    zck (zin x1 403) <|
    zck (zin (M19 242 20) 10) <|
    zlt (zupL L (R 242 21) (ztn (M19 242 20)) (L (R 242 8) (ztn x1))) fun L24 =>
    zlt (zup M19 242 20 ((M19 242 20) + (1 : Int32))) fun M25 =>
    zck (zin (M25 242 19) 2) <|
    zck (zin (M25 242 19) 2) <|
    zlt (zup M25 (R 242 22) (ztn (M25 242 19)) ((M25 (R 242 22) (ztn (M25 242 19))) + (1 : Int32))) fun M28 =>
    some (M28, L24)
  ) else (
    some (M19, L)
  )
def houseT2 (R : zR) (L : zL) (x1 : Int32) (e12 : zM) : Option (zM × zL) :=
  zck (zin (e12 242 19) 2) <| zbd2 (f_X12_bounded R e12 242 (0 : Int32) (9999 : Int32)) fun r14 M15 => houseT3 R L x1 e12 r14 M15
theorem houseT_eq {R : zR} {M : zM} {L : zL} : f_X12_tellHouse R M L 242 = zbd (f_X12_goesOn R M 242) fun M1 => zbd (f_X12_must R M1 242 (1 : Int32)) fun M3 => zbd (zloop zN (fun v => b_X12_tellHouse_16 R v.2 L 242 (M1 242 11) v.1) ((0 : Int32), M3)) fun e12 => houseT2 R L (M1 242 11) e12 := rfl
theorem nI_10l {l n : Nat} (hl : l < 2) : (10 : Int32) * nI l + nI n = nI (10 * l + n) := by
  have h10 : (10 : Int32) * nI l = nI (10 * l) := by
    rcases (show l = 0 ∨ l = 1 by omega) with rfl | rfl <;> decide
  rw [h10, nI_add]
section REF
variable {R : zR} {M M1 : zM} {L L1 : zL} {K V P : Nat → Int32} {E : Nat → Nat → Bool} {c t l n : Nat} {f : tF} {x : zTx}
theorem houseT3D (hR : zMd R) (hl : l < 2) (hn : n < 10) {e12 M15 : zM} (h : FR P f M15) (h19 : e12 242 19 = nI l) (h51 : e12 251 l = nI n) (x1 r14 : Int32) : zT (houseT3 R L1 x1 e12 r14 M15) (fun p => FR P f p.1 ∧ p.2 = L1 ∧ zag (fun a k => a = 252 ∧ k = 10 * l + n) M15 p.1) := by
  unfold houseT3
  rw [h19, hR.at (k := 22) (b := 251) rfl (by decide), ztn_nI (by omega), h51, nI_10l hl, hR.at (k := 23) (b := 252) rfl (by decide), ztn_nI (by omega)]
  have h1 : FR P f (zup M15 252 (10 * l + n) r14) := h.eq (zup_a (by omega)) (zup_a (by omega))
  exact zT_ck (zin_nI (by omega) (by omega)) (zT_lt (zT_bd (zT_eq (X12_mustD h1 4) (zT_if0 h1.ne.2.1 (zT_some ⟨h1, rfl, zag.rf.up ⟨rfl, rfl⟩⟩)))))
theorem houseT2D (hR : zMd R) (hl : l < 2) (hn : n < 10) {e12 : zM} (h : FR P f e12) (h19 : e12 242 19 = nI l) (h51 : e12 251 l = nI n) (x1 : Int32) : zT (houseT2 R L1 x1 e12) (fun p => FR P f p.1 ∧ p.2 = L1 ∧ zag (fun a k => a = 252 ∧ k = 10 * l + n) e12 p.1) := by
  unfold houseT2
  exact zT_ck (by rw [h19]; exact zin_nI (by omega) (by omega)) (zT_bd2 (zT_eq (X12_boundedD h 0 9999) (houseT3D hR hl hn h h19 h51 x1 0)))
theorem r252_re (hl : l < 2) (hn : n < 10) {a k : Nat} (q : a = 252 ∧ k = 10 * l + n) : reA l a k := Or.inr (Or.inr (Or.inr (Or.inl ⟨q.1, by omega, by omega⟩)))
theorem w15_re {a k : Nat} (q : a = 242 ∧ (k = 15 ∨ k = 16)) : reA l a k := Or.inr (Or.inl ⟨q.1, by omega⟩)
/-- after a fault -/
theorem houseLD (hR : zMd R) (hl : l < 2) (hn : n < 10) {M3 : zM} (h : FR P f M3) (h19 : M3 242 19 = nI l) (h51 : M3 251 l = nI n) (x1 : Int32) : zT (zbd (zloop zN (fun v => b_X12_tellHouse_16 R v.2 L1 242 x1 v.1) ((0 : Int32), M3)) fun e12 => houseT2 R L1 x1 e12) (fun p => FR P f p.1 ∧ p.2 = L1 ∧ zag (fun a k => a = 252 ∧ k = 10 * l + n) M3 p.1) := by
  refine zT_bd (zT_loop (fun _ v => v.2 = M3) 0 rfl (by omega) ?_)
  rintro m ⟨y, M4⟩ h4
  obtain rfl : M4 = M3 := h4
  unfold b_X12_tellHouse_16
  exact zT_if (fun _ => zT_some (houseT2D hR hl hn h h19 h51 x1)) (fun _ => zT_if0 h.ne.1 (zT_some (houseT2D hR hl hn h h19 h51 x1)))
/-- names told twice -/
theorem X12_dup (hR : zMd R) (hk : tkR M K V P c) (hP : ∀ i j, i < j → j ≤ c → P i < P j) (hE : ∀ i j, i ≤ c → j ≤ c → K i = 1 → K j = 1 → (E i j = true ↔ L 248 i = L 248 j)) {t1 : Nat} (h1 : t1 < t) (k1 : K t1 = 1) (h : reS l K V P c M L t x M1 L1) (hne : ∀ e, x.2.2 = some e → e.2 < t1) : zT (zloop zN (fun v => b_X12_tellHouse_16 R v.2 L1 242 (nI t1) v.1) ((0 : Int32), M1)) (fun e => wsR P t (if x.1.any (fun i => E i t1) = true then laterS x.2.2 3 t1 else x.2.2) e ∧ zag (fun a j => a = 242 ∧ (j = 15 ∨ j = 16)) M1 e) := by
  have c4 := hk.1
  have hk1 := h.tk hk
  obtain ⟨a1, a2, a3, a4, a5, a6, a7, a8, a9, a10⟩ := h
  have x10 := a3.1
  refine zT_for x.1.length (fun k v => v.1 = nI k ∧ zag (fun a j => a = 242 ∧ (j = 15 ∨ j = 16)) M1 v.2 ∧ (((∃ i, i < k ∧ E (x.1.getD i 0) t1 = true) ∧ wsR P t (laterS x.2.2 3 t1) v.2) ∨ ((∀ i, i < k → ¬ E (x.1.getD i 0) t1 = true) ∧ wsR P t x.2.2 v.2))) ⟨rfl, zag.rf, Or.inr ⟨fun i hi => absurd hi (by omega), a8⟩⟩ (by omega) ?_ ?_
  · rintro k ⟨z, M2⟩ hk6 ⟨rfl, g2, hw⟩
    simp only at g2 hw ⊢
    unfold b_X12_tellHouse_16
    have n20 : M2 242 20 = nI x.1.length := by rw [g2 242 20 (by omega)]; exact a5.2.1
    have n13 : M2 242 13 = 0 := by rw [g2 242 13 (by omega)]; exact a1.2
    rw [n20, hR.at (k := 21) (b := 250) rfl (by decide), hR.at (k := 8) (b := 248) rfl (by decide), ztn_nI (by omega), ztn_nI (by omega), (a5.2.2 k hk6).1, a10 248 t1 (by omega)]
    refine zT_if0 (nI_ge hk6 (by omega)) (zT_if1 n13 (zT_ck (zin_nI (by omega) (by omega)) (zT_ck (zin_nI (by omega) (by omega)) ?_)))
    obtain ⟨m1, m2, _⟩ := a3.2.1 _ (getD_mem hk6)
    have hEE := hE (x.1.getD k 0) t1 (by omega) (by omega) m2 k1
    have hk2 : tkR M2 K V P c := hk1.eq (fun a i q1 q2 => g2 a i (by omega))
    by_cases ce : E (x.1.getD k 0) t1 = true
    · refine zT_if1 ((lg_cmp_eq _ _).2 (hEE.1 ce)) ?_
      have key : ∀ (w : Option tF), laterS w 3 t1 = laterS x.2.2 3 t1 → wsR P t w M2 → (∀ e, w = some e → e.2 < t1 ∨ e = (3, t1)) → zT (zbd (f_X12_wrong R M2 242 3 (nI t1)) fun M10 => some (Sum.inl (nI k + 1, M10))) (Sum.elim (fun v => v.1 = nI (k + 1) ∧ zag (fun a j => a = 242 ∧ (j = 15 ∨ j = 16)) M1 v.2 ∧ (((∃ i, i < k + 1 ∧ E (x.1.getD i 0) t1 = true) ∧ wsR P t (laterS x.2.2 3 t1) v.2) ∨ ((∀ i, i < k + 1 → ¬ E (x.1.getD i 0) t1 = true) ∧ wsR P t x.2.2 v.2))) (fun e => wsR P t (if x.1.any (fun i => E i t1) = true then laterS x.2.2 3 t1 else x.2.2) e ∧ zag (fun a j => a = 242 ∧ (j = 15 ∨ j = 16)) M1 e)) := fun w ew hw hwi => by
        refine zT_bd (zT_w (X12_wrong hR hk2 hP (k := 3) hw n13 (by omega) (Or.inl rfl) h1 hwi) ?_)
        rintro M7 ⟨w7, g7⟩
        rw [ew] at w7
        exact zT_some ⟨nI_1 k, g2.tr g7, Or.inl ⟨⟨k, by omega, ce⟩, w7⟩⟩
      rcases hw with ⟨_, hw⟩ | ⟨_, hw⟩
      · refine key _ laterS_2 hw (fun e he => ?_)
        cases hx : x.2.2 with
        | none =>
          rw [hx] at he
          right
          cases he
          rfl
        | some e0 =>
          rw [hx] at he
          left
          cases he
          exact hne _ hx
      · exact key _ rfl hw (fun e he => Or.inl (hne e he))
    · refine zT_if0 (fun z => ce (hEE.2 ((lg_cmp_eq _ _).1 z))) (zT_some ⟨nI_1 k, g2, ?_⟩)
      rcases hw with ⟨⟨i, hi, e⟩, hw⟩ | ⟨ho, hw⟩
      · exact Or.inl ⟨⟨i, by omega, e⟩, hw⟩
      · refine Or.inr ⟨fun i hi => ?_, hw⟩
        by_cases ik : i = k
        · rw [ik]
          exact ce
        · exact ho i (by omega)
  · rintro ⟨z, M2⟩ ⟨rfl, g2, hw⟩
    simp only at g2 hw ⊢
    unfold b_X12_tellHouse_16
    refine zT_if1 (by rw [g2 242 20 (by omega), a5.2.1]; exact Int32.le_refl _) (zT_some ⟨?_, g2⟩)
    rcases hw with ⟨hw1, hw⟩ | ⟨ho, hw⟩
    · rw [if_pos (any_get.2 hw1)]
      exact hw
    · rw [if_neg (fun z => by obtain ⟨i, hi, e⟩ := any_get.1 z; exact ho i hi e)]
      exact hw
/-- a house's line -/
theorem X12_house (hR : zMd R) (hk : tkR M K V P c) (hK : endS K c) (hP : ∀ i j, i < j → j ≤ c → P i < P j) (hV : valS K V c) (hV9 : ∀ i, i ≤ c → K i = 2 → V i ≤ 9999) (hE : ∀ i j, i ≤ c → j ≤ c → K i = 1 → K j = 1 → (E i j = true ↔ L 248 i = L 248 j)) (hl : l < 2) (h : reS l K V P c M L t x M1 L1) (c20 : K t = 20) (n10 : x.1.length < 10) : zT (f_X12_tellHouse R M1 L1 242) (fun p => reO l K V P c M L (telS K V E t x) p.1 p.2) := by
  have c4 := hk.1
  have tc := h.2.1
  have hw0 := h.2.2.2.2.2.2.2.1
  obtain ⟨res, hr⟩ : ∃ res, telS K V E t x = res := ⟨_, rfl⟩
  rw [hr]
  have hr0 := hr
  have h3x := h.2.2.1
  rw [telS_20 c20, if_neg (by omega)] at hr
  rw [houseT_eq]
  refine zT_bd (zT_w (X12_go19 hR hk hK h (by rw [c20]; decide)) ?_)
  rintro M2 ⟨⟨e19, e51, _⟩, hh⟩
  rcases hh with ⟨f, e, hd⟩ | ⟨e, hs⟩
  · refine zT_bd (zT_eq (X12_mustD hd.1 1) (zT_w (houseLD hR hl n10 hd.1 e19 e51 (M2 242 11)) ?_))
    rintro ⟨M4, L4⟩ ⟨q1, q2, g⟩
    obtain rfl : L4 = L1 := q2
    exact Or.inl ⟨f, by rw [← hr, sB_l e], hd.mo q1 (g.mo (fun a k q => r252_re hl n10 q))⟩
  rw [sB_r e] at hr
  rw [hs.1.1]
  obtain ⟨M3, e3, hh⟩ := hs.must hR hk hK 1 (by decide)
  obtain ⟨M3', e3', hm3, g3⟩ := X12_must hR (hs.tk hk) hs.1 hs.2.1 1
  obtain rfl : M3 = M3' := Option.some.inj (e3.symm.trans e3')
  refine zT_bd (zT_eq e3 ?_)
  have f19 : M3 242 19 = nI l := by rw [g3 242 19 (by unfold tgA; omega)]; exact e19
  have f51 : M3 251 l = nI x.1.length := by rw [g3 251 l (by unfold tgA; omega)]; exact e51
  rcases hh with ⟨f, e2, hd⟩ | ⟨t2, e2, hs3⟩
  · refine zT_w (houseLD hR hl n10 hd.1 f19 f51 (nI (t + 1))) ?_
    rintro ⟨M4, L4⟩ ⟨q1, q2, g⟩
    obtain rfl : L4 = L1 := q2
    exact Or.inl ⟨f, by rw [← hr, sB_l e2], hd.mo q1 (g.mo (fun a k q => r252_re hl n10 q))⟩
  rw [sB_r e2] at hr
  obtain ⟨a2, b2, k2⟩ := mustS_ok (by decide) hK hs.2.1 e2
  subst a2
  refine zT_bd (zT_w (X12_dup (E := E) hR hk hP hE (t1 := t + 1) (by omega) k2 hs3 (fun e he => by have := hw0.lt e he; omega)) ?_)
  rintro M4 ⟨w4, g4⟩
  obtain ⟨w', hw'⟩ : ∃ w', (if x.1.any (fun i => E i (t + 1)) = true then laterS x.2.2 3 (t + 1) else x.2.2) = w' := ⟨_, rfl⟩
  rw [hw'] at w4 hr
  have i19 : M4 242 19 = nI l := by rw [g4 242 19 (by omega)]; exact f19
  have i51 : M4 251 l = nI x.1.length := by rw [g4 251 l (by omega)]; exact f51
  have wn : w' = none → x.2.2 = none := fun z => by
    rw [← hw'] at z
    by_cases q : x.1.any (fun i => E i (t + 1)) = true
    · rw [if_pos q] at z
      exact absurd z laterS_n
    · rw [if_neg q] at z
      exact z
  have hs4 : reS l K V P c M L (t + 1 + 1) (x.1, x.2.1, w') M4 L1 := by
    obtain ⟨a1, a2, ⟨o1, o2, o3, o4, o5, o6⟩, a4, a5, a6, a7, a8, a9, a10⟩ := hs3
    have gO : ∀ a k, a ≠ 242 → M4 a k = M3 a k := fun a k h => g4 a k (by omega)
    have g2 : ∀ k, k ≠ 15 → k ≠ 16 → M4 242 k = M3 242 k := fun k q1 q2 => g4 242 k (by omega)
    exact ⟨⟨(g2 11 (by omega) (by omega)).trans a1.1, (g2 13 (by omega) (by omega)).trans a1.2⟩, a2, ⟨o1, o2, o3, o4, o5, fun z => o6 (wn z)⟩, ⟨(g2 12 (by omega) (by omega)).trans a4.1, (g2 19 (by omega) (by omega)).trans a4.2⟩, a5.eq ⟨gO _ _ (by omega), g2 20 (by omega) (by omega)⟩ (fun j => gO _ j (by omega)), a6.eq (fun a q1 q2 => gO a _ (by omega)), a7.eq ⟨g2 31 (by omega) (by omega), g2 37 (by omega) (by omega)⟩ (fun a j q1 q2 => gO a j (by omega)) (Nat.le_refl _), w4, a9.tr (g4.mo (fun a k q => w15_re q)), a10⟩
  unfold houseT2
  refine zT_ck (by rw [i19]; exact zin_nI (by omega) (by omega)) ?_
  have hl2 : ∀ e, w' = some e → e.2 < t + 1 + 1 := fun e he => w4.lt e he
  refine zT_bd2 (zT_w (hs4.bounded hR hk hK hP hl2 0 9999) ?_)
  rintro ⟨r, M5⟩ (⟨f, e3, hd⟩ | ⟨e3, er, hs5⟩)
  · refine zT_w (houseT3D hR hl n10 hd.1 i19 i51 (nI (t + 1)) r) ?_
    rintro ⟨M6, L6⟩ ⟨q1, q2, g⟩
    obtain rfl : L6 = L1 := q2
    exact Or.inl ⟨f, by rw [← hr, sB_l e3], hd.mo q1 (g.mo (fun a k q => r252_re hl n10 q))⟩
  obtain ⟨_, b3, k3⟩ := mustS_ok (by decide) hK hs4.2.1 e3
  obtain rfl : r = V (t + 1 + 1) := er
  rw [sB_r e3] at hr
  rw [if_neg (fun z => by
    rcases z with z | z
    · exact absurd (Int32.lt_of_lt_of_le z (hV _ hs4.2.1 k3)) (Int32.lt_irrefl)
    · exact absurd (Int32.lt_of_lt_of_le z (hV9 _ hs4.2.1 k3)) (Int32.lt_irrefl))] at hs5
  dsimp only at hs5
  unfold houseT3
  rw [i19, hR.at (k := 22) (b := 251) rfl (by decide), ztn_nI (by omega), i51, nI_10l hl, hR.at (k := 23) (b := 252) rfl (by decide), ztn_nI (by omega)]
  have g6 : zag (fun a k => a = 252 ∧ k = 10 * l + x.1.length) M5 (zup M5 252 (10 * l + x.1.length) (V (t + 1 + 1))) := zag.rf.up ⟨rfl, rfl⟩
  have v6 : zup M5 252 (10 * l + x.1.length) (V (t + 1 + 1)) 252 (10 * l + x.1.length) = V (t + 1 + 1) := zup_same
  refine zT_ck (zin_nI (by omega) (by omega)) (zT_lt ?_)
  generalize zup M5 252 (10 * l + x.1.length) (V (t + 1 + 1)) = M6 at g6 v6 ⊢
  have hs6 : reS l K V P c M L (t + 1 + 1 + 1) (x.1, x.2.1, w') M6 L1 := by
    obtain ⟨a1, a2, a3, a4, a5, a6, a7, a8, a9, a10⟩ := hs5
    have gO : ∀ a k, a ≠ 252 → M6 a k = M5 a k := fun a k h => g6 a k (by omega)
    exact ⟨⟨(gO _ _ (by omega)).trans a1.1, (gO _ _ (by omega)).trans a1.2⟩, a2, a3, ⟨(gO _ _ (by omega)).trans a4.1, (gO _ _ (by omega)).trans a4.2⟩, ⟨(gO _ _ (by omega)).trans a5.1, (gO _ _ (by omega)).trans a5.2.1, fun j hj => ⟨(a5.2.2 j hj).1, (g6 252 _ (by dsimp only at hj; omega)).trans (a5.2.2 j hj).2⟩⟩, a6.eq (fun a q1 q2 => gO a _ (by omega)), a7.eq ⟨gO _ _ (by omega), gO _ _ (by omega)⟩ (fun a j q1 q2 => gO a j (by omega)) (Nat.le_refl _), a8.eq (gO _ _ (by omega)) (gO _ _ (by omega)) (Nat.le_refl _), a9.tr (g6.mo (fun a k q => r252_re hl n10 q)), a10⟩
  obtain ⟨M7, e7, hh⟩ := hs6.must hR hk hK 4 (by decide)
  obtain ⟨M7', e7', hm7, g7⟩ := X12_must hR (hs6.tk hk) hs6.1 hs6.2.1 4
  obtain rfl : M7 = M7' := Option.some.inj (e7.symm.trans e7')
  refine zT_bd (zT_eq e7 ?_)
  rcases hh with ⟨f, e4, hd⟩ | ⟨t4, e4, hs7⟩
  · exact zT_if0 hd.1.ne.2.1 (zT_some (Or.inl ⟨f, by rw [← hr, sB_l e4], hd⟩))
  rw [sB_r e4] at hr
  obtain ⟨_, _, xo, _⟩ := telS_ok hV hK tc h3x (hr0.trans hr.symm)
  have u7 : M7 252 (10 * l + x.1.length) = V (t + 1 + 1) := by rw [g7 252 _ (by unfold tgA; omega)]; exact v6
  obtain ⟨a1, a2, a3, a4, a5, a6, a7, a8, a9, a10⟩ := hs7
  dsimp only at a5
  have z20 : M7 242 20 = nI x.1.length := a5.2.1
  rw [z20, hR.at (k := 21) (b := 250) rfl (by decide), hR.at (k := 8) (b := 248) rfl (by decide), ztn_nI (by omega), ztn_nI (by omega), a10 248 _ (by omega), nI_1]
  refine zT_if1 (by rw [a1.2]; decide) (zT_ck (zin_nI (by omega) (by omega)) (zT_ck (zin_nI (by omega) (by omega)) (zT_lt (zT_lt ?_))))
  have y19 : zup M7 242 20 (nI (x.1.length + 1)) 242 19 = nI l := by rw [zup_k (by omega)]; exact a4.2
  have y51 : zup M7 242 20 (nI (x.1.length + 1)) 251 l = nI x.1.length := by rw [zup_a (by omega)]; exact a5.1
  rw [y19, ztn_nI (by omega), y51, nI_1]
  refine zT_ck (zin_nI (by omega) (by omega)) (zT_ck (zin_nI (by omega) (by omega)) (zT_lt (zT_some (Or.inr ⟨_, hr.symm, ?_⟩))))
  have g8 : zag (fun a k => (a = 242 ∧ k = 20) ∨ (a = 251 ∧ k = l)) M7 (zup (zup M7 242 20 (nI (x.1.length + 1))) 251 l (nI (x.1.length + 1))) := (zag.rf.up (by omega)).up (by omega)
  have y20 : zup (zup M7 242 20 (nI (x.1.length + 1))) 251 l (nI (x.1.length + 1)) 242 20 = nI (x.1.length + 1) := by rw [zup_a (by omega), zup_same]
  have y5 : zup (zup M7 242 20 (nI (x.1.length + 1))) 251 l (nI (x.1.length + 1)) 251 l = nI (x.1.length + 1) := zup_same
  dsimp only
  generalize zup (zup M7 242 20 (nI (x.1.length + 1))) 251 l (nI (x.1.length + 1)) = M8 at g8 y20 y5 ⊢
  have gO : ∀ a k, a ≠ 242 → a ≠ 251 → M8 a k = M7 a k := fun a k h1 h2 => g8 a k (by omega)
  have g2 : ∀ k, k ≠ 20 → M8 242 k = M7 242 k := fun k h1 => g8 242 k (by omega)
  have hn : reN l V L (x.1 ++ [t + 1]) M8 (zupL L1 250 x.1.length (L 248 (t + 1))) := by
    refine ⟨by rw [List.length_append]; exact y5, by rw [List.length_append]; exact y20, fun j hj => ?_⟩
    rw [List.length_append, List.length_singleton] at hj
    by_cases e : j = x.1.length
    · subst e
      rw [zupL_same, getD_e, gO _ _ (by omega) (by omega)]
      exact ⟨rfl, u7⟩
    · rw [zupL_k e, getD_l (by omega), gO _ _ (by omega) (by omega)]
      exact a5.2.2 j (by omega)
  have hl0 : ∀ b j, b ≠ 250 → zupL L1 250 x.1.length (L 248 (t + 1)) b j = L b j := fun b j hb => by rw [zupL_a hb]; exact a10 b j hb
  have hg : zag (reA l) M M8 := a9.tr (g8.mo (fun a k q => by
    rcases q with q | q
    · exact Or.inr (Or.inl ⟨q.1, by omega⟩)
    · exact Or.inr (Or.inr (Or.inl q))))
  have hxo : xOk K c (x.1 ++ [t + 1], x.2.1, w') := xo
  exact ⟨⟨(g2 11 (by omega)).trans a1.1, (g2 13 (by omega)).trans a1.2⟩, a2, hxo, ⟨(g2 12 (by omega)).trans a4.1, (g2 19 (by omega)).trans a4.2⟩, hn, a6.eq (fun a q1 q2 => gO a _ (by omega) (by omega)), a7.eq ⟨g2 31 (by omega), g2 37 (by omega)⟩ (fun a j q1 q2 => gO a j (by omega) (by omega)) (Nat.le_refl _), a8.eq (g2 15 (by omega)) (g2 16 (by omega)) (Nat.le_refl _), hg, hl0⟩
end REF

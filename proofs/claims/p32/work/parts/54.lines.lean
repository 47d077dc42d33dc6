/-! READ, on the class's side: the other lines, the whole text -/
section CLS
variable {R : zR} {M M1 : zM} {L L1 : zL} {K V P : Nat → Int32} {c t q : Nat} {f : tF} {x : zTx}
theorem X5_seed (hp : zRp R) (hq : 12 < q) (hk : tkC M L K V P c) (hK : endS K c) (hV : valS K V c) {E : Nat → Nat → Bool} (h : paS q K V P c M L t x M1 L1) (c29 : K t = 29) : zT (f_X5_tellSeed R M1 L1 5 q) (fun M2 => telO q K V P c M L (telS K V E t x) M2 L1) := by
  have c400 := hk.1
  have h1 := h.1
  have h2 := h.2.1
  have h3 := h.2.2.1
  unfold f_X5_tellSeed
  obtain ⟨res, hr⟩ : ∃ res, telS K V E t x = res := ⟨_, rfl⟩
  rw [hr]
  have hr0 := hr
  rw [telS_29 c29] at hr
  have m29 : mustS K 29 t = goS t := if_pos c29
  refine zT_bd2 (zT_w (h.take hp hq hk hK (d := 29) (by decide) (by decide) (by decide)) ?_)
  rw [m29]
  rintro ⟨r, M2⟩ (⟨f, e1, er, hd⟩ | ⟨t1, e1, er, hs⟩)
  · exact zT_if1 er (zT_some (Or.inl ⟨f, by rw [← hr, sB_l e1], hd⟩))
  rw [sB_r e1] at hr
  refine zT_if0 (by rw [er]; decide) (zT_bd2 (zT_w (hs.take hp hq hk hK (d := 2) (by decide) (by decide) (by decide)) ?_))
  rintro ⟨r, M3⟩ (⟨f, e2, er, hd⟩ | ⟨t2, e2, er, hs⟩)
  · exact zT_if1 er (zT_some (Or.inl ⟨f, by rw [← hr, sB_l e2], hd⟩))
  rw [sB_r e2] at hr
  refine zT_if0 (by rw [er]; decide) (zT_bd2 (zT_w (hs.take hp hq hk hK (d := 4) (by decide) (by decide) (by decide)) ?_))
  rintro ⟨r, M4⟩ (⟨f, e3, er, hd⟩ | ⟨t3, e3, er, hs4⟩)
  · exact zT_if1 er (zT_some (Or.inl ⟨f, by rw [← hr, sB_l e3], hd⟩))
  rw [sB_r e3] at hr
  refine zT_if0 (by rw [er]; decide) ?_
  obtain ⟨a1, b1⟩ := goS_ok hK h2 (by rw [c29]; decide) e1
  obtain ⟨a2, b2, k2⟩ := mustS_ok (by decide) hK b1 e2
  subst a1
  obtain ⟨_, _, xo⟩ := telS_ok hV hK h2 h3 (hr0.trans hr.symm)
  obtain ⟨y1, y2, y3, y4, y5, y6, y7, y8⟩ := hs4
  dsimp only at y1 y4 y5 y6 y7 ⊢
  rw [h1.1, nI_1, hp.2.1]
  refine zT_bd (zT_eq (X9_value hp (by omega)) (zT_lt (zT_some (Or.inr ⟨_, hr.symm, ?_⟩))))
  have hv := (hk.2 (t + 1) b1).2.2.2 k2
  rw [y8 9 _ (by omega), hv]
  obtain ⟨z1, z2, z3, z4, z5, z6⟩ := y5
  refine ⟨⟨by rw [zup_a (by omega)]; exact y1.1, by rw [zup_a (by omega)]; exact y1.2⟩, y2, xo.1, y4.eq (by rw [zup_k (by omega)]) (fun j => by rw [zup_a (by omega)]), ⟨by rw [zup_k (by omega)]; exact z1, by rw [zup_k (by omega)]; exact z2, fun w => by rw [zup_k (by omega), zup_k (by omega)]; exact z3 w, zup_same, z5.eq (fun b k q1 q2 => by rw [zup_a (by omega)]), z6.eq (fun b k q1 q2 => by rw [zup_a (by omega)])⟩, y6.eq (by rw [zup_a (by omega)]) (by rw [zup_a (by omega)]), y7.up (Or.inr (Or.inr ⟨by omega, by omega⟩)), y8⟩
theorem paD.j58 (h : paD q P M L f M1 L1) (x2 x3 : Int32) {res : tF ⊕ (Nat × zTx)} (hr : res = .inl f) : zT (j_X5_tellShared_58 R M1 L1 5 q x2 x3) (fun M2 => telO q K V P c M L res M2 L1) := by
  unfold j_X5_tellShared_58
  refine zT_bd2 (zT_w (h.take x2) ?_)
  rintro ⟨r, M2⟩ ⟨er, hd⟩
  exact zT_if1 er (zT_some (Or.inl ⟨f, hr, hd⟩))
theorem X5_shared (hp : zRp R) (hq : 12 < q) (hk : tkC M L K V P c) (hK : endS K c) (hV : valS K V c) {E : Nat → Nat → Bool} (h : paS q K V P c M L t x M1 L1) (c25 : K t = 25) : zT (f_X5_tellShared R M1 L1 5 q) (fun M2 => telO q K V P c M L (telS K V E t x) M2 L1) := by
  have c400 := hk.1
  have h1 := h.1
  have h2 := h.2.1
  have h3 := h.2.2.1
  have hk1 := h.tk hq hk
  unfold f_X5_tellShared
  obtain ⟨res, hr⟩ : ∃ res, telS K V E t x = res := ⟨_, rfl⟩
  rw [hr]
  have hr0 := hr
  rw [telS_25 c25] at hr
  have m25 : mustS K 25 t = goS t := if_pos c25
  have e2' : nI t + 2 = nI (t + 2) := nI_add t 2
  rw [hp.2.1, h1.1, nI_1, e2']
  refine zT_bd (zT_eq (X9_kind hp (by omega)) (zT_bd2 (zT_w (h.take hp hq hk hK (d := 25) (by decide) (by decide) (by decide)) ?_)))
  rw [m25]
  rintro ⟨r, M2⟩ (⟨f, e1, er, hd⟩ | ⟨t1, e1, er, hs1⟩)
  · exact zT_if1 er (zT_some (Or.inl ⟨f, by rw [← hr, sB_l e1], hd⟩))
  rw [sB_r e1] at hr
  refine zT_if0 (by rw [er]; decide) ?_
  obtain ⟨a1, b1⟩ := goS_ok hK h2 (by rw [c25]; decide) e1
  subst a1
  obtain ⟨k1, k7, k8, _⟩ := hk1.2 (t + 1) b1
  rw [k7]
  dsimp only at hs1 ⊢
  by_cases cc : K (t + 1) = 26 ∨ K (t + 1) = 27 ∨ K (t + 1) = 28
  · rw [if_pos cc] at hr
    have hx : ckF (K (t + 1)) - 110 = K (t + 1) - 26 := by rcases cc with q | q | q <;> rw [q] <;> decide
    have h0 : K (t + 1) ≠ 0 := by rcases cc with q | q | q <;> rw [q] <;> decide
    have J : zT (j_X5_tellShared_58 R M2 L1 5 q (ckF (K (t + 1))) (nI (t + 2))) (fun M2 => telO q K V P c M L res M2 L1) := by
      unfold j_X5_tellShared_58
      have mk : mustS K (K (t + 1)) (t + 1) = goS (t + 1) := if_pos rfl
      refine zT_bd2 (zT_w (hs1.take hp hq hk hK (d := K (t + 1)) k1 rfl h0) ?_)
      rw [mk]
      rintro ⟨r, M3⟩ (⟨f, e2, er, hd⟩ | ⟨t2, e2, er, hs⟩)
      · exact zT_if1 er (zT_some (Or.inl ⟨f, by rw [← hr, sB_l e2], hd⟩))
      rw [sB_r e2] at hr
      refine zT_if0 (by rw [er]; decide) (zT_bd2 (zT_w (hs.take hp hq hk hK (d := 2) (by decide) (by decide) (by decide)) ?_))
      rintro ⟨r, M4⟩ (⟨f, e3, er, hd⟩ | ⟨t3, e3, er, hs⟩)
      · exact zT_if1 er (zT_some (Or.inl ⟨f, by rw [← hr, sB_l e3], hd⟩))
      rw [sB_r e3] at hr
      refine zT_if0 (by rw [er]; decide) (zT_bd2 (zT_w (hs.take hp hq hk hK (d := 4) (by decide) (by decide) (by decide)) ?_))
      rintro ⟨r, M5⟩ (⟨f, e4, er, hd⟩ | ⟨t4, e4, er, hs5⟩)
      · exact zT_if1 er (zT_some (Or.inl ⟨f, by rw [← hr, sB_l e4], hd⟩))
      rw [sB_r e4] at hr
      refine zT_if0 (by rw [er]; decide) ?_
      obtain ⟨a2, b2⟩ := goS_ok hK b1 h0 e2
      obtain ⟨a3, b3, k3⟩ := mustS_ok (by decide) hK b2 e3
      subst a2
      obtain ⟨_, _, xo⟩ := telS_ok hV hK h2 h3 (hr0.trans hr.symm)
      have hk5 := hs5.tk hq hk
      obtain ⟨y1, y2, y3, y4, y5, y6, y7, y8⟩ := hs5
      dsimp only at y1 y4 y5 y6 y7 ⊢
      rw [hp.2.1]
      have hv := (hk5.2 (t + 1 + 1) b2).2.2.2 k3
      refine zT_bd (zT_eq (X9_value hp (t := t + 1 + 1) (by omega)) ?_)
      rw [hv]
      have bad : V (t + 1 + 1) < 1 ∨ 30 < V (t + 1 + 1) → zT (j_X5_tellShared_108 R M5 L1 5 (nI (t + 2))) (fun M2 => telO q K V P c M L res M2 L1) := fun hb => by
        unfold j_X5_tellShared_108
        rw [if_pos hb] at hr xo
        refine zT_bd (zT_w (X5_later hp (t := t + 1 + 1) (k := 5) y6 (by omega) (hk5.2 _ b2).2.2.1 (Or.inr rfl)) ?_)
        rintro M6 ⟨w6, g6⟩
        have fO : ∀ b j, b ≠ 5 → M6 b j = M5 b j := fun b j hb => g6 b j (by omega)
        exact zT_some (Or.inr ⟨_, hr.symm, ⟨by rw [g6 5 3 (by omega)]; exact y1.1, by rw [g6 5 6 (by omega)]; exact y1.2⟩, y2, xo.1, y4.eq (fO _ _ (by omega)) (fun j => fO _ j (by omega)), ⟨by rw [fO _ _ (by omega)]; exact y5.1, by rw [fO _ _ (by omega)]; exact y5.2.1, fun z => absurd z laterS_n, by rw [fO _ _ (by omega)]; exact y5.2.2.2.1, y5.2.2.2.2.1.eq (fun b k q1 q2 => fO b k (by omega)), y5.2.2.2.2.2.eq (fun b k q1 q2 => fO b k (by omega))⟩, w6, y7.tr (g6.mo (fun b j w => Or.inl w.1)), y8⟩)
      by_cases v1 : V (t + 1 + 1) < 1
      · exact zT_if1 v1 (bad (Or.inl v1))
      refine zT_if0 v1 ?_
      by_cases v30 : V (t + 1 + 1) ≤ 30
      · refine zT_if1 v30 ?_
        have nb : ¬ (V (t + 1 + 1) < 1 ∨ 30 < V (t + 1 + 1)) := fun z => by
          rcases z with z | z
          · exact v1 z
          · exact absurd (Int32.lt_of_lt_of_le z v30) (Int32.lt_irrefl)
        rw [if_neg nb] at hr xo
        unfold f_X7_share
        rw [hx]
        refine zT_bd (zT_lt (zT_lt (zT_some (zT_some (Or.inr ⟨_, hr.symm, ?_⟩)))))
        have fO : ∀ b j, ¬ (b = q ∧ (j = 8 ∨ j = 9)) → zup (zup M5 q 8 (K (t + 1) - 26)) q 9 (V (t + 1 + 1)) b j = M5 b j := fun b j hb => by
          by_cases e : b = q
          · subst e
            rw [zup_k (by omega), zup_k (by omega)]
          · rw [zup_a e, zup_a e]
        refine ⟨⟨by rw [fO _ _ (by omega)]; exact y1.1, by rw [fO _ _ (by omega)]; exact y1.2⟩, y2, xo.1, y4.eq (fO _ _ (by omega)) (fun j => fO _ j (by omega)), ⟨by rw [fO _ _ (by omega)]; exact y5.1, by rw [fO _ _ (by omega)]; exact y5.2.1, fun z => ⟨by rw [zup_k (by omega), zup_same], zup_same⟩, by rw [fO _ _ (by omega)]; exact y5.2.2.2.1, y5.2.2.2.2.1.eq (fun b k q1 q2 => fO b k (by omega)), y5.2.2.2.2.2.eq (fun b k q1 q2 => fO b k (by omega))⟩, y6.eq (fO _ _ (by omega)) (fO _ _ (by omega)), (y7.up (Or.inr (Or.inr ⟨by omega, by omega⟩))).up (Or.inr (Or.inr ⟨by omega, by omega⟩)), y8⟩
      · exact zT_if0 v30 (bad (Or.inr (Int32.not_le.1 v30)))
    exact zT_if (fun _ => J) (fun n0 => zT_if (fun _ => J) (fun n1 => zT_if (fun _ => J) (fun n2 => by
      exfalso
      rcases cc with z | z | z <;> rw [z] at n0 n1 n2
      · exact n0 (by decide)
      · exact n1 (by decide)
      · exact n2 (by decide))))
  · rw [if_neg cc] at hr
    have ne : ∀ d y, d ∈ kdL → ckF d = y → (d = 26 ∨ d = 27 ∨ d = 28) → ¬ ckF (K (t + 1)) = y := fun d y hd hx hdd z => by
      have e := (ck_is d k1 hd hx).1 z
      rw [e] at cc
      exact cc hdd
    refine zT_if0 (ne 26 110 (by decide) (by decide) (by decide)) (zT_if0 (ne 27 111 (by decide) (by decide) (by decide)) (zT_if0 (ne 28 112 (by decide) (by decide) (by decide)) ?_))
    exact zT_bd (zT_w (hs1.fail hp hq hk (k := 1) (Or.inl rfl)) fun M3 hd => hd.j58 _ _ hr.symm)
/-- a law's line -/
theorem rsA_out {a : Nat} {M2 : zM} (g : zag (rsA a) M1 M2) {b j : Nat} (hb : b < a ∨ a + 3 ≤ b) (h5 : b ≠ 5 ∨ 7 < j) (h12 : b ≠ 12) : M2 b j = M1 b j := g b j (by
  rintro (w | w)
  · have := puA_c w
    omega
  · omega)
theorem rsA_pa {a : Nat} {M2 : zM} (g : zag (rsA a) M1 M2) (ha : a = q + 1 ∨ a = q + 5) : zag (paA q) M1 M2 := g.mo (fun b j w => by
  unfold paA
  rcases w with w | w
  · have := puA_c w
    omega
  · omega)
theorem X5_lawP (hp : zRp R) (hq : 12 < q) (hRq : zRq R q) (hk : tkC M L K V P c) (hK : endS K c) (hV : valS K V c) {E : Nat → Nat → Bool} (h : paS q K V P c M L t x M1 L1) (c23 : K t = 23) : zT (f_X5_tellLaw R M1 L1 5 103 (q + 1)) (fun M2 => telO q K V P c M L (telS K V E t x) M2 L1) := by
  have hk1 := h.tk hq hk
  obtain ⟨h1, h2, h3, h4, ⟨z1, z2, z3, z4, z5, z6⟩, h6, h7, h8⟩ := h
  obtain ⟨_, _, _, _, _, r1, r2, _, r5, r6, _⟩ := hRq
  refine zT_w (X5_law hp ⟨r1, r2⟩ (by omega) hk1 hK hV h1 h2 (d := 23) (by decide) (by decide) (by decide) c23) ?_
  rintro M2 (⟨f, e, hd⟩ | ⟨r, e, a1, a2, a3, a4, a5, g⟩)
  · exact Or.inl ⟨f, by rw [telS_23 c23, sB_l e], hd.1, h7.tr (rsA_pa hd.2 (Or.inl rfl)), h8⟩
  · have hr : telS K V E t x = .inr (r.1, (x.1, (x.2.1.1, r.2, x.2.1.2.2), x.2.2)) := by rw [telS_23 c23, sB_r e]
    obtain ⟨_, b2, xo, _⟩ := telS_ok hV hK h2 h3 hr
    have gg := h7.tr (rsA_pa g (Or.inl rfl))
    have fq : ∀ j, M2 q j = M1 q j := fun j => rsA_out g (by omega) (by omega) (by omega)
    have f9 : ∀ j, M2 (q + 9) j = M1 (q + 9) j := fun j => rsA_out g (by omega) (by omega) (by omega)
    have f5 : ∀ b j, q + 5 ≤ b → b ≤ q + 5 + 2 → M2 b j = M1 b j := fun b j q1 q2 => rsA_out g (by omega) (by omega) (by omega)
    have w8 : M2 5 8 = M1 5 8 := rsA_out g (by omega) (by omega) (by omega)
    have w9 : M2 5 9 = M1 5 9 := rsA_out g (by omega) (by omega) (by omega)
    have hn : clN q V L x.1 M2 L1 := h4.eq (fq 5) f9
    have hl : lawC M2 (q + 1) r.2 := ⟨a2, a3, a4, a5⟩
    have hl6 : lawC M2 (q + 5) (ruQ x.2.1) := z6.eq f5
    have hrl : clR q (x.2.1.1, r.2, x.2.1.2.2) x.2.2 M2 := ⟨(fq 6).trans z1, (fq 7).trans z2, fun z => ⟨(fq 8).trans (z3 z).1, (fq 9).trans (z3 z).2⟩, (fq 10).trans z4, hl, hl6⟩
    have hw : wsC P x.2.2 M2 := h6.eq w8 w9
    exact Or.inr ⟨_, hr, a1, b2, xo, hn, hrl, hw, gg, h8⟩
theorem X5_lawQ (hp : zRp R) (hq : 12 < q) (hRq : zRq R q) (hk : tkC M L K V P c) (hK : endS K c) (hV : valS K V c) {E : Nat → Nat → Bool} (h : paS q K V P c M L t x M1 L1) (c24 : K t = 24) : zT (f_X5_tellLaw R M1 L1 5 104 (q + 5)) (fun M2 => telO q K V P c M L (telS K V E t x) M2 L1) := by
  have hk1 := h.tk hq hk
  obtain ⟨h1, h2, h3, h4, ⟨z1, z2, z3, z4, z5, z6⟩, h6, h7, h8⟩ := h
  obtain ⟨_, _, _, _, _, r1, r2, _, r5, r6, _⟩ := hRq
  refine zT_w (X5_law hp ⟨r5, r6⟩ (by omega) hk1 hK hV h1 h2 (d := 24) (by decide) (by decide) (by decide) c24) ?_
  rintro M2 (⟨f, e, hd⟩ | ⟨r, e, a1, a2, a3, a4, a5, g⟩)
  · exact Or.inl ⟨f, by rw [telS_24 c24, sB_l e], hd.1, h7.tr (rsA_pa hd.2 (Or.inr rfl)), h8⟩
  · have hr : telS K V E t x = .inr (r.1, (x.1, (x.2.1.1, x.2.1.2.1, r.2), x.2.2)) := by rw [telS_24 c24, sB_r e]
    obtain ⟨_, b2, xo, _⟩ := telS_ok hV hK h2 h3 hr
    have gg := h7.tr (rsA_pa g (Or.inr rfl))
    have fq : ∀ j, M2 q j = M1 q j := fun j => rsA_out g (by omega) (by omega) (by omega)
    have f9 : ∀ j, M2 (q + 9) j = M1 (q + 9) j := fun j => rsA_out g (by omega) (by omega) (by omega)
    have f5 : ∀ b j, q + 1 ≤ b → b ≤ q + 1 + 2 → M2 b j = M1 b j := fun b j q1 q2 => rsA_out g (by omega) (by omega) (by omega)
    have w8 : M2 5 8 = M1 5 8 := rsA_out g (by omega) (by omega) (by omega)
    have w9 : M2 5 9 = M1 5 9 := rsA_out g (by omega) (by omega) (by omega)
    have hn : clN q V L x.1 M2 L1 := h4.eq (fq 5) f9
    have hl : lawC M2 (q + 5) r.2 := ⟨a2, a3, a4, a5⟩
    have hl6 : lawC M2 (q + 1) (ruP x.2.1) := z5.eq f5
    have hrl : clR q (x.2.1.1, x.2.1.2.1, r.2) x.2.2 M2 := ⟨(fq 6).trans z1, (fq 7).trans z2, fun z => ⟨(fq 8).trans (z3 z).1, (fq 9).trans (z3 z).2⟩, (fq 10).trans z4, hl6, hl⟩
    have hw : wsC P x.2.2 M2 := h6.eq w8 w9
    exact Or.inr ⟨_, hr, a1, b2, xo, hn, hrl, hw, gg, h8⟩
end CLS

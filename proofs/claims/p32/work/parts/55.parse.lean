/-! READ, on the class's side: the whole text -/
def parI (q : Nat) (K V P : Nat → Int32) (E : Nat → Nat → Bool) (c : Nat) (M : zM) (L : zL) (res : tF ⊕ (Nat × zTx)) (m : Nat) (v : Int32 × zM × zL) : Prop := (∃ (i t fuel : Nat) (x : zTx), m = 402 - t ∧ v.1 = nI i ∧ i ≤ t ∧ paS q K V P c M L t x v.2.1 v.2.2 ∧ 401 ≤ fuel + t ∧ texS K V E fuel t x = res) ∨ (m = 0 ∧ ∃ f, paD q P M L f v.2.1 v.2.2 ∧ res = .inl f)
section CLS
variable {R : zR} {M M1 : zM} {L L1 : zL} {K V P : Nat → Int32} {E : Nat → Nat → Bool} {c t q : Nat} {f : tF} {x : zTx}
theorem paS.street (hq : 12 < q) (h : paS q K V P c M L t x M1 L1) : paS q K V P c M L t (x.1, ((1, x.2.1.1.2), x.2.1.2), x.2.2) (zup M1 q 6 1) L1 := by
  obtain ⟨h1, h2, h3, h4, ⟨z1, z2, z3, z4, z5, z6⟩, h6, h7, h8⟩ := h
  have f5 : ∀ j, zup M1 q 6 1 5 j = M1 5 j := fun j => zup_a (by omega)
  have fO : ∀ b k, q < b → zup M1 q 6 1 b k = M1 b k := fun b k hb => zup_a (by omega)
  have fq : ∀ j, j ≠ 6 → zup M1 q 6 1 q j = M1 q j := fun j hj => zup_k hj
  have hl1 : lawC (zup M1 q 6 1) (q + 1) (ruP x.2.1) := z5.eq (fun b k q1 q2 => fO b k (by omega))
  have hl2 : lawC (zup M1 q 6 1) (q + 5) (ruQ x.2.1) := z6.eq (fun b k q1 q2 => fO b k (by omega))
  have hr : clR q ((1, x.2.1.1.2), x.2.1.2) x.2.2 (zup M1 q 6 1) := ⟨zup_same, (fq 7 (by omega)).trans z2, fun z => ⟨(fq 8 (by omega)).trans (z3 z).1, (fq 9 (by omega)).trans (z3 z).2⟩, (fq 10 (by omega)).trans z4, hl1, hl2⟩
  exact ⟨⟨(f5 3).trans h1.1, (f5 6).trans h1.2⟩, h2, h3, h4.eq (fq 5 (by omega)) (fun j => fO _ j (by omega)), hr, h6.eq (f5 8) (f5 9), h7.up (Or.inr (Or.inr ⟨by omega, by omega⟩)), h8⟩
theorem paS.turns (hq : 12 < q) (h : paS q K V P c M L t x M1 L1) : paS q K V P c M L t (x.1, ((x.2.1.1.1, 1, x.2.1.1.2.2), x.2.1.2), x.2.2) (zup M1 q 7 1) L1 := by
  obtain ⟨h1, h2, h3, h4, ⟨z1, z2, z3, z4, z5, z6⟩, h6, h7, h8⟩ := h
  have f5 : ∀ j, zup M1 q 7 1 5 j = M1 5 j := fun j => zup_a (by omega)
  have fO : ∀ b k, q < b → zup M1 q 7 1 b k = M1 b k := fun b k hb => zup_a (by omega)
  have fq : ∀ j, j ≠ 7 → zup M1 q 7 1 q j = M1 q j := fun j hj => zup_k hj
  have hl1 : lawC (zup M1 q 7 1) (q + 1) (ruP x.2.1) := z5.eq (fun b k q1 q2 => fO b k (by omega))
  have hl2 : lawC (zup M1 q 7 1) (q + 5) (ruQ x.2.1) := z6.eq (fun b k q1 q2 => fO b k (by omega))
  have hr : clR q ((x.2.1.1.1, 1, x.2.1.1.2.2), x.2.1.2) x.2.2 (zup M1 q 7 1) := ⟨(fq 6 (by omega)).trans z1, zup_same, fun z => ⟨(fq 8 (by omega)).trans (z3 z).1, (fq 9 (by omega)).trans (z3 z).2⟩, (fq 10 (by omega)).trans z4, hl1, hl2⟩
  exact ⟨⟨(f5 3).trans h1.1, (f5 6).trans h1.2⟩, h2, h3, h4.eq (fq 5 (by omega)) (fun j => fO _ j (by omega)), hr, h6.eq (f5 8) (f5 9), h7.up (Or.inr (Or.inr ⟨by omega, by omega⟩)), h8⟩
theorem paD.up (hq : 12 < q) (h : paD q P M L f M1 L1) (k : Nat) (v : Int32) : paD q P M L f (zup M1 q k v) L1 := ⟨h.1.eq (zup_a (by omega)) (zup_a (by omega)), h.2.1.up (Or.inr (Or.inr ⟨by omega, by omega⟩)), h.2.2⟩
theorem parN {res : tF ⊕ (Nat × zTx)} {i fuel : Nat} {M2 : zM} {L2 : zL} (hV : valS K V c) (hK : endS K c) (h2 : t ≤ c) (h3 : xOk K c x) (c4 : c ≤ 400) (hi : i ≤ t) (hf : 401 ≤ fuel + t) (hr : texS K V E fuel t x = res) (h0 : ¬ K t = 0) (h : telO q K V P c M L (telS K V E t x) M2 L2) : ∃ k1, k1 < 402 - t ∧ parI q K V P E c M L res k1 (nI i + 1, M2, L2) := by
  obtain ⟨m, rfl⟩ : ∃ m, fuel = m + 1 := ⟨fuel - 1, by omega⟩
  unfold texS at hr
  rw [if_neg h0] at hr
  rcases h with ⟨f, e, hd⟩ | ⟨r, e, hs⟩
  · rw [sB_l e] at hr
    exact ⟨0, by omega, Or.inr ⟨rfl, f, hd, hr.symm⟩⟩
  · rw [sB_r e] at hr
    obtain ⟨a1, a2, _⟩ := telS_ok hV hK h2 h3 e
    exact ⟨402 - r.1, by omega, Or.inl ⟨i + 1, r.1, m, r.2, rfl, nI_1 i, by omega, hs, by omega, hr⟩⟩
theorem X5_lines (hp : zRp R) (hq : 12 < q) (hRq : zRq R q) (hk : tkC M L K V P c) (hK : endS K c) (hV : valS K V c) (hE : ∀ i j, i ≤ c → j ≤ c → K i = 1 → K j = 1 → (E i j = true ↔ L 9 i = L 9 j)) (h : paS q K V P c M L 0 x M1 L1) : zT (zloop zN (fun v => b_X5_parse_39 R v.2.1 v.2.2 5 q v.1) ((0 : Int32), M1, L1)) (fun e => telO q K V P c M L (texS K V E 401 0 x) e.1 e.2) := by
  have c400 := hk.1
  obtain ⟨res, hr⟩ : ∃ res, texS K V E 401 0 x = res := ⟨_, rfl⟩
  rw [hr]
  refine zT_loop (parI q K V P E c M L res) 402 (Or.inl ⟨0, 0, 401, x, rfl, rfl, Nat.le_refl _, h, by omega, hr⟩) (by omega) ?_
  clear hr h
  rintro m ⟨x3, M2, L2⟩ (⟨i, t, fuel, x, rfl, rfl, hi, hs, hf, hr⟩ | ⟨rfl, f, hd, hr⟩)
  case inr =>
    unfold b_X5_parse_39
    exact zT_if (fun _ => zT_some (Or.inl ⟨f, hr, hd⟩)) (fun _ => zT_if0 hd.1.ne (zT_some (Or.inl ⟨f, hr, hd⟩)))
  dsimp only at hs
  have hs1 := hs.1
  have h2 := hs.2.1
  have h3 := hs.2.2.1
  obtain ⟨k1, k7, k8, _⟩ := (hs.tk hq hk).2 t h2
  unfold b_X5_parse_39
  refine zT_if0 (by rw [nI_lit 400]; exact nI_nlt (by omega) (by omega)) (zT_if1 hs1.2 ?_)
  dsimp only
  rw [hp.2.1, hs1.1]
  refine zT_bd (zT_eq (X9_kind hp (by omega)) ?_)
  rw [k7]
  by_cases c0 : K t = 0
  · refine zT_if1 (by rw [c0]; decide) (zT_some (Or.inr ⟨(t, x), ?_, hs⟩))
    obtain ⟨m, rfl⟩ : ∃ m, fuel = m + 1 := ⟨fuel - 1, by omega⟩
    unfold texS at hr
    rw [if_pos c0] at hr
    exact hr.symm
  have no : ∀ d y, d ∈ kdL → ckF d = y → ¬ K t = d → ¬ ckF (K t) = y := fun d y hd hx hn z => hn ((ck_is d k1 hd hx).1 z)
  have nx : ∀ {M3 : zM} {L3 : zL}, telO q K V P c M L (telS K V E t x) M3 L3 → ∃ k1, k1 < 402 - t ∧ parI q K V P E c M L res k1 (nI i + 1, M3, L3) := fun h => parN hV hK h2 h3 c400 hi hf hr c0 h
  refine zT_if0 (no 0 0 (by decide) (by decide) c0) (zT_bd (zT_eq (X9_kind hp (by omega)) ?_))
  rw [k7]
  by_cases c20 : K t = 20
  · refine zT_if1 (by rw [c20]; decide) (zT_bd2 (zT_w (X5_house hp hq hRq.2.2.1 hk hK hV hE hs c20) ?_))
    rintro ⟨M3, L3⟩ h3
    exact zT_some (nx h3)
  refine zT_if0 (no 20 100 (by decide) (by decide) c20) ?_
  by_cases c21 : K t = 21
  · have mk : mustS K 21 t = goS t := if_pos c21
    refine zT_if1 (by rw [c21]; decide) (zT_bd2 (zT_w (hs.take hp hq hk hK (d := 21) (by decide) (by decide) (by decide)) ?_))
    rw [mk]
    unfold j_X5_parse_151 j_X5_parse_152
    rintro ⟨r, M3⟩ (⟨f, e1, er, hd⟩ | ⟨t1, e1, er, hs1⟩)
    · exact zT_if1 er (zT_ck (by decide) (zT_lt (zT_some (nx (Or.inl ⟨f, by rw [telS_21 c21, sB_l e1], hd.up hq 6 0⟩)))))
    refine zT_if0 (by rw [er]; decide) (zT_bd2 (zT_w (hs1.take hp hq hk hK (d := 4) (by decide) (by decide) (by decide)) ?_))
    rintro ⟨r, M4⟩ (⟨f, e2, er, hd⟩ | ⟨t2, e2, er, hs2⟩)
    · exact zT_if1 er (zT_ck (by decide) (zT_lt (zT_some (nx (Or.inl ⟨f, by rw [telS_21 c21, sB_r e1, sB_l e2], hd.up hq 6 0⟩)))))
    · exact zT_if0 (by rw [er]; decide) (zT_ck (by decide) (zT_lt (zT_some (nx (Or.inr ⟨_, by rw [telS_21 c21, sB_r e1, sB_r e2], hs2.street hq⟩)))))
  refine zT_if0 (no 21 101 (by decide) (by decide) c21) ?_
  by_cases c22 : K t = 22
  · have mk : mustS K 22 t = goS t := if_pos c22
    refine zT_if1 (by rw [c22]; decide) (zT_bd2 (zT_w (hs.take hp hq hk hK (d := 22) (by decide) (by decide) (by decide)) ?_))
    rw [mk]
    unfold j_X5_parse_181 j_X5_parse_182
    rintro ⟨r, M3⟩ (⟨f, e1, er, hd⟩ | ⟨t1, e1, er, hs1⟩)
    · exact zT_if1 er (zT_ck (by decide) (zT_lt (zT_some (nx (Or.inl ⟨f, by rw [telS_22 c22, sB_l e1], hd.up hq 7 0⟩)))))
    refine zT_if0 (by rw [er]; decide) (zT_bd2 (zT_w (hs1.take hp hq hk hK (d := 4) (by decide) (by decide) (by decide)) ?_))
    rintro ⟨r, M4⟩ (⟨f, e2, er, hd⟩ | ⟨t2, e2, er, hs2⟩)
    · exact zT_if1 er (zT_ck (by decide) (zT_lt (zT_some (nx (Or.inl ⟨f, by rw [telS_22 c22, sB_r e1, sB_l e2], hd.up hq 7 0⟩)))))
    · exact zT_if0 (by rw [er]; decide) (zT_ck (by decide) (zT_lt (zT_some (nx (Or.inr ⟨_, by rw [telS_22 c22, sB_r e1, sB_r e2], hs2.turns hq⟩)))))
  refine zT_if0 (no 22 102 (by decide) (by decide) c22) ?_
  by_cases c23 : K t = 23
  · refine zT_if1 (by rw [c23]; decide) ?_
    rw [hRq.1]
    exact zT_bd (zT_w (X5_lawP hp hq hRq hk hK hV hs c23) fun M3 h3 => zT_some (nx h3))
  refine zT_if0 (no 23 103 (by decide) (by decide) c23) ?_
  by_cases c24 : K t = 24
  · refine zT_if1 (by rw [c24]; decide) ?_
    rw [hRq.2.1]
    exact zT_bd (zT_w (X5_lawQ hp hq hRq hk hK hV hs c24) fun M3 h3 => zT_some (nx h3))
  refine zT_if0 (no 24 104 (by decide) (by decide) c24) ?_
  by_cases c25 : K t = 25
  · exact zT_if1 (by rw [c25]; decide) (zT_bd (zT_w (X5_shared hp hq hk hK hV hs c25) fun M3 h3 => zT_some (nx h3)))
  refine zT_if0 (no 25 105 (by decide) (by decide) c25) ?_
  by_cases c29 : K t = 29
  · exact zT_if1 (by rw [c29]; decide) (zT_bd (zT_w (X5_seed hp hq hk hK hV hs c29) fun M3 h3 => zT_some (nx h3)))
  refine zT_if0 (no 29 106 (by decide) (by decide) c29) ?_
  have hff := hs.fail (M1 := M2) hp hq hk (k := 1) (Or.inl rfl)
  rw [hs1.1] at hff
  exact zT_bd (zT_w hff fun M3 hd => zT_some (nx (Or.inl ⟨_, telS_no ⟨c20, c21, c22, c23, c24, c25, c29⟩, hd⟩)))
def ru0 : zRu := ((0, 0, 0, 7, 0), dflt 0, dflt 1)
/-- READ's text, on the class's side -/
theorem X5_text (hp : zRp R) (hq : 12 < q) (hRq : zRq R q) (hK : endS K c) (hV : valS K V c) (hsc : zT (f_X9_scan R M L 6 3) (fun p => tkC p.1 p.2 K V P c ∧ (∀ i j, i ≤ c → j ≤ c → K i = 1 → K j = 1 → (E i j = true ↔ p.2 9 i = p.2 9 j)) ∧ zag (fun b _ => 6 ≤ b ∧ b ≤ 10) M p.1 ∧ ∀ b j, b ≠ 9 → p.2 b j = L b j)) : zT (f_X5_parse R M L 5 3 q) (fun p => ((∃ f, texS K V E 401 0 ([], ru0, none) = .inl f ∧ (f.1 = 1 ∨ f.1 = 2) ∧ p.1 = nI f.1 ∧ p.2.1 5 7 = P f.2) ∨ (∃ t ns ru w, texS K V E 401 0 ([], ru0, none) = .inr (t, ns, ru, w) ∧ xOk K c (ns, ru, w) ∧ (match w with | none => p.1 = 0 ∧ p.2.1 5 7 = -1 ∧ clR q ru none p.2.1 ∧ p.2.1 q 5 = nI ns.length ∧ ∀ j, j < ns.length → p.2.1 (q + 9) j = V (ns.getD j 0 + 1) | some e => (e.1 = 3 ∨ e.1 = 5) ∧ p.1 = nI e.1 ∧ p.2.1 5 7 = P e.2))) ∧ zag (fun b k => paA q b k ∨ (6 ≤ b ∧ b ≤ 10)) M p.2.1 ∧ ∀ b j, b ≠ 9 → b ≠ 11 → p.2.2 b j = L b j) := by
  unfold f_X5_parse
  rw [hp.2.1]
  refine zT_bd2 (zT_w hsc ?_)
  rintro ⟨M1, L1⟩ ⟨hk, hE, g1, hL1⟩
  dsimp only at hk hE g1 hL1 ⊢
  unfold f_X7_clear
  obtain ⟨q0, q1, q2, _, _, r1, r2, _, r5, r6, _⟩ := id hRq
  rw [q0, q1]
  have clr : ∀ (M1 : zM) (a : Nat) (k x : Int32) (Q : zPr), zLr R a → 12 < a → (k = 1 ∨ k = 2) → ¬ (k = 2 ∧ x = 5) → fP Q = [(k, x, 0), (4, 0, 0)] → noLot Q → zT (zbd (f_X3_clear M1 a) fun M1 => zbd (f_X3_add R M1 a k x) fun M3 => zbd (f_X3_add R M3 a (4 : Int32) (0 : Int32)) fun M5 => some M5) (fun M2 => lawC M2 a Q ∧ zag (adA a) M1 M2) := fun M1 a k x Q hR ha hk hkx hQ hn => by
    unfold f_X3_clear
    refine zT_bd (zT_lt (zT_lt (zT_some ?_)))
    have g0 : zag (adA a) M1 (zup (zup M1 a 3 0) a 4 0) := (zag.rf.up (Or.inr (Or.inr ⟨rfl, Or.inl rfl⟩))).up (Or.inr (Or.inr ⟨rfl, Or.inr rfl⟩))
    have v3 : zup (zup M1 a 3 0) a 4 0 a 3 = nI 0 := by rw [zup_k (by omega), zup_same]; rfl
    generalize zup (zup M1 a 3 0) a 4 0 = M2 at g0 v3 ⊢
    refine zT_bd (zT_w (X3_add hR v3 (by omega) k x) ?_)
    rintro M3 ⟨a1, a2, a3, a4, a5, a6⟩
    refine zT_bd (zT_w (X3_add hR a1 (by omega) 4 0) ?_)
    rintro M4 ⟨b1, b2, b3, b4, b5, b6⟩
    obtain ⟨e1, e2⟩ := b4 0 (by omega)
    refine zT_some ⟨⟨by rw [b1, hQ]; rfl, by rw [hQ]; show 2 ≤ 400; omega, ?_, fun _ => hn⟩, (g0.tr a6).tr b6⟩
    rw [hQ]
    refine ⟨by rw [e1]; exact a2, fun _ => by rw [e2]; exact a3, fun z => ?_, b2, fun z => absurd z (by decide), fun z => absurd z (by decide), trivial⟩
    rcases hk with w | w <;> rw [w] at z <;> exact absurd z (by decide)
  have n0 : noLot (dflt 0) := fun b hb i hi _ => by
    have : b = (none, [(1, 3)]) := by simpa [dflt] using hb
    subst this
    have : i = (1, 3) := by simpa [inB] using hi
    subst this
    decide
  have n1 : noLot (dflt 1) := fun b hb i hi h1 => by
    have : b = (none, [(0, 0)]) := by simpa [dflt] using hb
    subst this
    have : i = (0, 0) := by simpa [inB] using hi
    subst this
    exact absurd h1 (by decide)
  refine zT_bd (zT_bd (zT_w (clr M1 (q + 1) 2 3 (dflt 0) ⟨r1, r2⟩ (by omega) (Or.inr rfl) (by decide) rfl n0) ?_))
  rintro M2 ⟨l2, g2⟩
  refine zT_bd (zT_w (clr M2 (q + 5) 1 0 (dflt 1) ⟨r5, r6⟩ (by omega) (Or.inl rfl) (by decide) rfl n1) ?_)
  rintro M3 ⟨l3, g3⟩
  refine zT_lt (zT_lt (zT_lt (zT_lt (zT_lt (zT_lt (zT_some (zT_lt (zT_lt (zT_lt (zT_lt (zT_lt ?_)))))))))))
  have l3' : lawC M3 (q + 1) (dflt 0) := l2.eq (fun b k q1 q2 => g3 b k (by unfold adA; omega))
  have hg : zag (paA q) M1 M3 := (g2.mo (fun b k w => by unfold adA at w; unfold paA; omega)).tr (g3.mo (fun b k w => by unfold adA at w; unfold paA; omega))
  have s0 : ∃ M4, zup (zup (zup (zup (zup (zup (zup (zup (zup (zup (zup M3 q 5 0) q 6 0) q 7 0) q 8 0) q 9 7) q 10 0) 5 3 0) 5 6 0) 5 7 (-1)) 5 8 0) 5 9 (-1) = M4 ∧ paS q K V P c M1 L1 0 ([], ru0, none) M4 L1 := by
    refine ⟨_, rfl, ?_⟩
    have fO : ∀ b k, b ≠ q → b ≠ 5 → zup (zup (zup (zup (zup (zup (zup (zup (zup (zup (zup M3 q 5 0) q 6 0) q 7 0) q 8 0) q 9 7) q 10 0) 5 3 0) 5 6 0) 5 7 (-1)) 5 8 0) 5 9 (-1) b k = M3 b k := fun b k h1 h2 => by
      rw [zup_a h2, zup_a h2, zup_a h2, zup_a h2, zup_a h2, zup_a h1, zup_a h1, zup_a h1, zup_a h1, zup_a h1, zup_a h1]
    have fq : ∀ k, zup (zup (zup (zup (zup (zup (zup (zup (zup (zup (zup M3 q 5 0) q 6 0) q 7 0) q 8 0) q 9 7) q 10 0) 5 3 0) 5 6 0) 5 7 (-1)) 5 8 0) 5 9 (-1) q k = zup (zup (zup (zup (zup (zup M3 q 5 0) q 6 0) q 7 0) q 8 0) q 9 7) q 10 0 q k := fun k => by
      rw [zup_a (by omega), zup_a (by omega), zup_a (by omega), zup_a (by omega), zup_a (by omega)]
    have p5 : ∀ k, paA q 5 k := fun k => Or.inl rfl
    have pq : ∀ k, paA q q k := fun k => Or.inr (Or.inr ⟨by omega, by omega⟩)
    refine ⟨⟨?_, ?_⟩, Nat.zero_le _, ⟨by decide, fun i hi => absurd hi (by simp), ?_, ?_, Or.inl rfl, fun _ => by decide⟩, ⟨?_, fun j hj => absurd hj (by simp)⟩, ⟨?_, ?_, fun _ => ⟨?_, ?_⟩, ?_, l3'.eq (fun b k q1 q2 => fO b k (by omega) (by omega)), l3.eq (fun b k q1 q2 => fO b k (by omega) (by omega))⟩, ⟨?_, ?_⟩, ((((((((((hg.up (pq _)).up (pq _)).up (pq _)).up (pq _)).up (pq _)).up (pq _)).up (p5 _)).up (p5 _)).up (p5 _)).up (p5 _)).up (p5 _), fun _ _ _ => rfl⟩
    · rw [zup_k (by omega), zup_k (by omega), zup_k (by omega), zup_k (by omega), zup_same]; rfl
    · rw [zup_k (by omega), zup_k (by omega), zup_k (by omega), zup_same]
    · exact dP_1 (show dO [(1, 3)] 0 by simp [dO])
    · exact dP_1 (show dO [(0, 0)] 0 by simp [dO])
    · rw [fq, zup_k (by omega), zup_k (by omega), zup_k (by omega), zup_k (by omega), zup_k (by omega), zup_same]; rfl
    · rw [fq, zup_k (by omega), zup_k (by omega), zup_k (by omega), zup_k (by omega), zup_same]; rfl
    · rw [fq, zup_k (by omega), zup_k (by omega), zup_k (by omega), zup_same]; rfl
    · rw [fq, zup_k (by omega), zup_k (by omega), zup_same]; rfl
    · rw [fq, zup_k (by omega), zup_same]; rfl
    · rw [fq, zup_same]; rfl
    · rw [zup_k (by omega), zup_same]
    · rw [zup_same]
  obtain ⟨M4, e4, s0⟩ := s0
  rw [e4]
  refine zT_bd (zT_w (X5_lines hp hq hRq hk hK hV hE s0) ?_)
  rintro ⟨M5, L5⟩ (⟨f, e, hd⟩ | ⟨r, e, hs⟩)
  · dsimp only at hd ⊢
    obtain ⟨⟨f1, f2, f3⟩, hg5, hL5⟩ := hd
    refine zT_if0 (show ¬ M5 5 6 = 0 from fun z => ?_) (zT_some ⟨Or.inl ⟨f, e, f1, f2, f3⟩, (g1.mo (fun b k w => Or.inr w)).tr (hg5.mo (fun b k w => Or.inl w)), fun b j h9 h11 => (hL5 b j h11).trans (hL1 b j h9)⟩)
    rw [f2] at z
    rcases f1 with w | w <;> rw [w] at z <;> exact absurd z (by decide)
  · dsimp only at hs ⊢
    obtain ⟨t, ns, ru, w⟩ := r
    obtain ⟨h1, h2, h3, h4, h5, h6, h7, h8⟩ := hs
    dsimp only at h1 h2 h3 h4 h5 h6 h7 h8
    refine zT_if1 h1.2 (zT_lt (zT_some ⟨Or.inr ⟨t, ns, ru, w, e, h3, ?_⟩, (g1.mo (fun b k w => Or.inr w)).tr ((h7.up (Or.inl rfl)).mo (fun b k w => Or.inl w)), fun b j h9 h11 => (h8 b j h11).trans (hL1 b j h9)⟩))
    cases w with
    | none =>
      dsimp only
      refine ⟨by rw [zup_k (by omega)]; exact h6.1, by rw [zup_same]; exact h6.2, h5.eq (fun k _ _ => zup_a (by omega)) (fun b k _ _ => zup_a (by omega)), by rw [zup_a (by omega)]; exact h4.1, fun j hj => by rw [zup_a (by omega)]; exact (h4.2 j hj).2⟩
    | some e =>
      dsimp only
      exact ⟨h6.1, by rw [zup_k (by omega)]; exact h6.2.1, by rw [zup_same]; exact h6.2.2⟩
end CLS

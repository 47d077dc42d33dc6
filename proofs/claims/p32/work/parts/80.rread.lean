/-! READ, on the reference's side: whole -/
/-- the cells that read() changes: where there is a fault, where there is none -/
def rrA (l1 : Nat) : Nat → Nat → Prop := fun b k => reA l1 b k ∨ b = 244 ∨ b = 245 ∨ b = 246 ∨ b = 247 ∨ (b = 242 ∧ (k = 2 ∨ k = 4 ∨ k = 10 ∨ k = 17 ∨ k = 19))
def roA (l1 : Nat) : Nat → Nat → Prop := fun b k => rrA l1 b k ∨ b = 270 ∨ b = 281 ∨ (b = 242 ∧ (k = 18 ∨ k = 48 ∨ k = 53))
theorem rr_1 {l1 b k : Nat} (h : b = 244 ∨ b = 245 ∨ b = 246 ∨ b = 247 ∨ (b = 242 ∧ (k = 2 ∨ k = 4 ∨ k = 10 ∨ k = 17 ∨ k = 19))) : rrA l1 b k := Or.inr h
theorem rr_2 {l1 k : Nat} (h : k = 11 ∨ k = 12 ∨ k = 13 ∨ k = 15 ∨ k = 20 ∨ k = 31 ∨ k = 37) : rrA l1 242 k := by
  refine Or.inl ?_
  unfold reA exA
  omega
theorem rr_3 {l1 b : Nat} (h : b = 251 ∨ b = 253 ∨ b = 254 ∨ b = 255 ∨ b = 256 ∨ b = 257) : rrA l1 b l1 := by
  refine Or.inl ?_
  unfold reA
  omega
theorem rr_4 {l1 b k : Nat} (h : (b = 258 ∨ b = 259) ∧ (k = 2 * l1 ∨ k = 2 * l1 + 1)) : rrA l1 b k := by
  refine Or.inl ?_
  unfold reA
  omega
theorem reA_no {l1 b k : Nat} (h : (b = 242 ∧ (k = 2 ∨ k = 18 ∨ k = 48 ∨ k = 53 ∨ k = 17)) ∨ b = 270 ∨ b = 281) : ¬ reA l1 b k := by
  unfold reA exA
  omega
def rdR (M : zM) (L : zL) (l1 : Nat) (V P : Nat → Int32) (res : tF ⊕ (Nat × zTx)) (p : Int32 × zM × zL) : Prop :=
  ((((∃ f, res = .inl f ∧ p.1 = nI f.1 ∧ p.2.1 242 17 = P f.2) ∨ (∃ t ns ru e, res = .inr (t, ns, ru, some e) ∧ p.1 = nI e.1 ∧ p.2.1 242 17 = P e.2)) ∧ zag (rrA l1) M p.2.1) ∨
   (∃ t ns ru, res = .inr (t, ns, ru, none) ∧ p.1 = 0 ∧ p.2.1 242 17 = -1 ∧ p.2.1 242 18 = nI l1 ∧ zMz p.2.1 l1 ru ∧ (∀ j, j < ns.length → p.2.1 270 j = V (ns.getD j 0 + 1)) ∧ (∀ j, ns.length ≤ j → j < 60 → j ≠ 40 → p.2.1 270 j = 0) ∧ p.2.1 270 40 = nI ns.length ∧ p.2.1 242 48 = 0 ∧ p.2.1 242 53 = 0 ∧ (∀ j, j < 3 → p.2.1 281 j = 0) ∧ zag (roA l1) M p.2.1)) ∧
  p.2.1 242 2 = 0 ∧ ∀ b j, b ≠ 248 → b ≠ 250 → p.2.2 b j = L b j
section REF
variable {R : zR} {M : zM} {L : zL} {K V P : Nat → Int32} {E : Nat → Nat → Bool} {l l1 n c : Nat}
theorem X12_none (hR : zMd R) (hl : l1 < 2) (h19 : M 242 19 = nI l1) : zT (zloop zN (fun v => b_X12_read_167 R v.2 L 242 v.1) ((0 : Int32), M)) (fun M1 => M1 258 (2 * l1) = M1 259 (2 * l1) ∧ M1 258 (2 * l1 + 1) = M1 259 (2 * l1 + 1) ∧ zag (fun b k => (b = 258 ∨ b = 259) ∧ (k = 2 * l1 ∨ k = 2 * l1 + 1)) M M1) := by
  refine zT_for 2 (fun k v => v.1 = nI k ∧ (∀ j, j < k → v.2 258 (2 * l1 + j) = 0 ∧ v.2 259 (2 * l1 + j) = 0) ∧ zag (fun b k => (b = 258 ∨ b = 259) ∧ (k = 2 * l1 ∨ k = 2 * l1 + 1)) M v.2) ⟨rfl, fun j hj => absurd hj (by omega), zag.rf⟩ (by omega) ?_ ?_
  · rintro k ⟨y, M2⟩ hk ⟨rfl, b, g⟩
    simp only at b g ⊢
    have e19 : M2 242 19 = nI l1 := by rw [g 242 19 (by omega)]; exact h19
    unfold b_X12_read_167
    rw [hR.at (k := 29) (b := 258) rfl (by decide), hR.at (k := 30) (b := 259) rfl (by decide), e19, nI_2l hl hk, ztn_nI (by omega)]
    refine zT_if0 (by rw [nI_lit 2]; exact nI_ge hk (by omega)) (zT_ck (zin_nI (by omega) (by omega)) (zT_lt ?_))
    have c19 : zup M2 258 (2 * l1 + k) 0 242 19 = nI l1 := by rw [zup_o (by omega)]; exact e19
    rw [c19, nI_2l hl hk, ztn_nI (by omega)]
    refine zT_ck (zin_nI (by omega) (by omega)) (zT_lt (zT_some ⟨nI_1 k, fun j hj => ?_, (g.up (by omega)).up (by omega)⟩))
    dsimp only
    by_cases e : j = k
    · rw [e]
      refine ⟨?_, zup_same⟩
      rw [zup_o (by omega), zup_same]
    · obtain ⟨b1, b2⟩ := b j (by omega)
      exact ⟨by rw [zup_o (by omega), zup_o (by omega)]; exact b1, by rw [zup_o (by omega), zup_o (by omega)]; exact b2⟩
  · rintro ⟨y, M2⟩ ⟨rfl, b, g⟩
    simp only at b g ⊢
    unfold b_X12_read_167
    refine zT_if1 (by decide) (zT_some ⟨?_, ?_, g⟩)
    · obtain ⟨b1, b2⟩ := b 0 (by omega)
      exact b1.trans b2.symm
    · obtain ⟨b1, b2⟩ := b 1 (by omega)
      exact b1.trans b2.symm
theorem X12_slots (hR : zMd R) : zT (zloop zN (fun v => b_X12_read_383 R v.2 L 242 v.1) ((0 : Int32), M)) (fun M1 => (∀ j, j < 3 → M1 281 j = 0) ∧ zag (fun b _ => b = 281) M M1) := by
  refine zT_for 3 (fun k v => v.1 = nI k ∧ (∀ j, j < k → v.2 281 j = 0) ∧ zag (fun b _ => b = 281) M v.2) ⟨rfl, fun j hj => absurd hj (by omega), zag.rf⟩ (by omega) ?_ ?_
  · rintro k ⟨y, M2⟩ hk ⟨rfl, b, g⟩
    simp only at b g ⊢
    unfold b_X12_read_383
    rw [hR.at (k := 59) (b := 281) rfl (by decide), ztn_nI (by omega)]
    refine zT_if0 (by rw [nI_lit 3]; exact nI_ge hk (by omega)) (zT_ck (zin_nI (by omega) (by omega)) (zT_lt (zT_some ⟨nI_1 k, fun j hj => ?_, g.up rfl⟩)))
    dsimp only
    by_cases e : j = k
    · rw [e, zup_same]
    · rw [zup_k e]
      exact b j (by omega)
  · rintro ⟨y, M2⟩ ⟨rfl, b, g⟩
    simp only at b g ⊢
    unfold b_X12_read_383
    exact zT_if1 (by decide) (zT_some ⟨b, g⟩)
/-- where the reference ends -/
theorem X12_bad {N : zM} {L4 : zL} {M13 : Int32} (h13 : N 242 13 = M13) (hp : ¬ M13 ≤ 0) (s : Int32) : zT (j_X12_read_258 R N L4 242 242 s) (fun p => p.1 = M13 ∧ p.2.1 = zup N 242 17 s ∧ p.2.2 = L4) := by
  unfold j_X12_read_258
  refine zT_lt ?_
  have e : zup N 242 17 s 242 13 = M13 := by rw [zup_o (by omega)]; exact h13
  rw [e]
  exact zT_if0 hp (zT_some ⟨rfl, rfl, rfl⟩)
theorem X12_poor {N : zM} {L4 : zL} {M15 : Int32} (h13 : N 242 13 = 0) (h15 : N 242 15 = M15) (hp : ¬ M15 ≤ 0) (s : Int32) : zT (j_X12_read_258 R N L4 242 242 s) (fun p => p.1 = M15 ∧ p.2.1 = zup N 242 17 s ∧ p.2.2 = L4) := by
  unfold j_X12_read_258
  refine zT_lt ?_
  have e : zup N 242 17 s 242 13 = 0 := by rw [zup_o (by omega)]; exact h13
  have e2 : zup N 242 17 s 242 15 = M15 := by rw [zup_o (by omega)]; exact h15
  rw [e, e2]
  exact zT_if1 (Int32.le_refl _) (zT_if0 hp (zT_some ⟨rfl, rfl, rfl⟩))
theorem X12_fine (hR : zMd R) (hl : l1 < 2) (hn : n ≤ 10) {N : zM} {L4 : zL} (h13 : N 242 13 = 0) (h15 : N 242 15 = 0) (h19 : N 242 19 = nI l1) (h51 : N 251 l1 = nI n) : zT (j_X12_read_258 R N L4 242 242 (-1)) (fun p => p.1 = 0 ∧ p.2.1 242 17 = -1 ∧ p.2.1 242 18 = nI l1 ∧ (∀ j, j < n → p.2.1 270 j = N 252 (10 * l1 + j)) ∧ (∀ j, n ≤ j → j < 60 → j ≠ 40 → p.2.1 270 j = 0) ∧ p.2.1 270 40 = nI n ∧ p.2.1 242 48 = 0 ∧ p.2.1 242 53 = 0 ∧ (∀ j, j < 3 → p.2.1 281 j = 0) ∧ p.2.2 = L4 ∧ zag (fun b k => b = 270 ∨ b = 281 ∨ (b = 242 ∧ (k = 17 ∨ k = 18 ∨ k = 48 ∨ k = 53))) N p.2.1) := by
  unfold j_X12_read_258
  refine zT_lt ?_
  have e : zup N 242 17 (-1) 242 13 = 0 := by rw [zup_o (by omega)]; exact h13
  have e2 : zup N 242 17 (-1) 242 15 = 0 := by rw [zup_o (by omega)]; exact h15
  have e3 : zup N 242 17 (-1) 242 19 = nI l1 := by rw [zup_o (by omega)]; exact h19
  rw [e, e2, e3]
  refine zT_if1 (Int32.le_refl _) (zT_if1 (Int32.le_refl _) (zT_lt ?_))
  have f17 : zup (zup N 242 17 (-1)) 242 18 (nI l1) 242 17 = -1 := by rw [zup_o (by omega), zup_same]
  have f18 : zup (zup N 242 17 (-1)) 242 18 (nI l1) 242 18 = nI l1 := zup_same
  have g0 : zag (fun b k => b = 270 ∨ b = 281 ∨ (b = 242 ∧ (k = 17 ∨ k = 18 ∨ k = 48 ∨ k = 53))) N (zup (zup N 242 17 (-1)) 242 18 (nI l1)) := (zag.rf.up (by omega)).up (by omega)
  generalize zup (zup N 242 17 (-1)) 242 18 (nI l1) = N1 at f17 f18 g0 ⊢
  refine zT_bd (zT_w (X12_zero hR) ?_)
  rintro N2 ⟨a2, g2⟩
  rw [g2 242 18 (by omega), f18, hR.at (k := 45) (b := 270) rfl (by decide), hR.at (k := 22) (b := 251) rfl (by decide), ztn_nI (by omega), g2 251 l1 (by omega), g0 251 l1 (by omega), h51]
  refine zT_ck (zin_nI (by omega) (by omega)) (zT_lt ?_)
  have g3 : zag (fun b _ => b = 270) N1 (zup N2 270 (ztn 40) (nI n)) := g2.up rfl
  have a3 : ∀ j, j < 60 → j ≠ 40 → zup N2 270 (ztn 40) (nI n) 270 j = 0 := fun j h1 h2 => by
    rw [zup_o (fun z => h2 (z.2.trans (by decide)))]
    exact a2 j h1
  have a40 : zup N2 270 (ztn 40) (nI n) 270 40 = nI n := zup_same
  generalize zup N2 270 (ztn 40) (nI n) = N3 at g3 a3 a40 ⊢
  refine zT_bd (zT_w (X12_purses hR hl hn (by rw [g3 242 18 (by omega)]; exact f18) (by rw [g3 251 l1 (by omega), g0 251 l1 (by omega)]; exact h51)) ?_)
  rintro N4 ⟨a4, b4, g4⟩
  refine zT_lt (zT_lt (zT_bd (zT_w (X12_slots hR) ?_)))
  rintro N5 ⟨a5, g5⟩
  have q4 : ∀ k, k ≠ 48 → k ≠ 53 → N5 242 k = N1 242 k := fun k k1 k2 => by rw [g5 242 k (by omega), zup_o (by omega), zup_o (by omega), g4 242 k (by omega), g3 242 k (by omega)]
  have q7 : ∀ j, N5 270 j = N4 270 j := fun j => by rw [g5 270 j (by omega), zup_o (by omega), zup_o (by omega)]
  refine zT_some ⟨rfl, ?_, ?_, fun j hj => ?_, fun j h1 h2 h3 => ?_, ?_, ?_, ?_, a5, rfl, ?_⟩
  · exact (q4 17 (by omega) (by omega)).trans f17
  · exact (q4 18 (by omega) (by omega)).trans f18
  · show N5 270 j = _
    rw [q7, a4 j hj, g3 252 _ (by omega), g0 252 _ (by omega)]
  · show N5 270 j = _
    rw [q7, b4 j h1]
    exact a3 j h2 h3
  · show N5 270 40 = _
    rw [q7, b4 40 (by omega)]
    exact a40
  · show N5 242 48 = 0
    rw [g5 242 48 (by omega), zup_o (by omega), zup_same]
  · show N5 242 53 = 0
    rw [g5 242 53 (by omega), zup_same]
  · have g4b : zag (fun b k => b = 270 ∨ b = 281 ∨ (b = 242 ∧ (k = 17 ∨ k = 18 ∨ k = 48 ∨ k = 53))) N3 N4 := g4.mo (fun b k e => Or.inl e)
    exact (g0.tr (g3.mo (fun b k e => Or.inl e))).tr (((g4b.up (by omega)).up (by omega)).tr (g5.mo (fun b k e => Or.inr (Or.inl e))))
/-- READ, on the reference's side -/
theorem X12_readC (hR : zMd R) (hw : wdOkR L) (hll : l = 0 ∧ l1 = 1 ∨ l = 1 ∧ l1 = 0) (h18 : M 242 18 = nI l) (h2 : M 242 2 = nI n) (hn : n ≤ 2000) {B : Nat → Nat} (hB : ∀ i, B i < 256) (hb : ∀ j, B j = zbyte (M 243 j)) (hv : ∀ i, i ≤ cN B n → kN B n i = 2 → 0 ≤ vN B n i ∧ vN B n i ≤ 9999) : zT (f_X12_read R M L 242) (rdR M L l1 (vN B n) (pN B n) (texS (kN B n) (vN B n) (eN B n) 401 0 ([], ru0, none))) := by
  have hl : l1 < 2 := by omega
  unfold f_X12_read
  rw [h2, hR.at (k := 22) (b := 251) rfl (by decide), hR.at (k := 24) (b := 253) rfl (by decide), hR.at (k := 25) (b := 254) rfl (by decide), hR.at (k := 26) (b := 255) rfl (by decide), hR.at (k := 27) (b := 256) rfl (by decide), hR.at (k := 28) (b := 257) rfl (by decide)]
  refine zT_lt ?_
  generalize e1 : zup M 242 4 (nI n) = M1
  have a4 : M1 242 4 = nI n := by rw [← e1, zup_same]
  refine zT_bd (zT_w (X12_copyB hR hn a4) ?_)
  rintro M6 ⟨b1, g1⟩
  have eB : (fun j => zbyte (M1 243 j)) = B := by
    funext j
    rw [← e1, zup_o (by omega), hb]
  rw [eB] at b1
  refine zT_lt ?_
  generalize e7 : zup M6 242 2 0 = M7
  have b7 : btR M7 B n := by
    obtain ⟨c1, c2, c3⟩ := b1
    exact ⟨c1, by rw [← e7, zup_o (by omega)]; exact c2, fun j hj => by rw [← e7, zup_o (by omega)]; exact c3 j hj⟩
  refine zT_bd2 (zT_w (X12_cut hR hw b7 hB) ?_)
  rintro ⟨M8, L9⟩ ⟨k8, E9, g8, gl⟩
  dsimp only at k8 E9 g8 gl ⊢
  have hF : ftR (kN B n) (vN B n) (pN B n) (eN B n) (cN B n) L9 := ft_N hB hn hv E9
  have gA : zag (rrA l1) M M8 := by
    refine zag.tr ?_ (g8.mo (fun b k e => rr_1 (by unfold cuA at e; omega)))
    rw [← e7]
    refine zag.up ?_ (rr_1 (by omega))
    refine zag.tr ?_ (g1.mo (fun b k e => rr_1 (Or.inl e)))
    rw [← e1]
    exact zag.rf.up (rr_1 (by omega))
  have z2 : M8 242 2 = 0 := by rw [g8 242 2 (by unfold cuA; omega), ← e7, zup_same]
  have z18 : M8 242 18 = nI l := by
    rw [gA 242 18 (fun w => by
      rcases w with w | w
      · exact reA_no (by omega) w
      · omega)]
    exact h18
  generalize kN B n = K at k8 hF ⊢
  generalize vN B n = V at k8 hF ⊢
  generalize pN B n = P at k8 hF ⊢
  generalize eN B n = E at hF ⊢
  generalize cN B n = c at k8 hF ⊢
  generalize ert : texS K V E 401 0 ([], ru0, none) = res
  clear hb b1 b7 eB e1 e7 g1 g8 E9 a4 hv
  refine zT_lt ?_
  generalize u0 : zup M8 242 11 (0) = N0
  refine zT_lt ?_
  generalize u1 : zup N0 242 12 (0) = N1
  refine zT_lt ?_
  generalize u2 : zup N1 242 13 (0) = N2
  refine zT_lt ?_
  generalize u3 : zup N2 242 15 (0) = N3
  have f18 : N3 242 18 = nI l := by rw [← u3, zup_o (by omega), ← u2, zup_o (by omega), ← u1, zup_o (by omega), ← u0, zup_o (by omega)]; exact z18
  have fl : (1 : Int32) - nI l = nI l1 := by
    rcases hll with ⟨rfl, rfl⟩ | ⟨rfl, rfl⟩ <;> decide
  rw [f18, fl]
  refine zT_lt ?_
  generalize u4 : zup N3 242 19 (nI l1) = N4
  have h19_4 : N4 242 19 = nI l1 := by rw [← u4, zup_same]
  refine zT_lt ?_
  generalize u5 : zup N4 242 20 (0) = N5
  have h19_5 : N5 242 19 = nI l1 := by rw [← u5, zup_o (by omega)]; exact h19_4
  rw [h19_5]
  refine zT_ck (zin_nI (by omega) (by omega)) ?_
  rw [ztn_nI (show l1 < 2147483648 by omega)]
  refine zT_lt ?_
  generalize u6 : zup N5 251 l1 (0) = N6
  have h19_6 : N6 242 19 = nI l1 := by rw [← u6, zup_o (by omega)]; exact h19_5
  rw [h19_6]
  refine zT_ck (zin_nI (by omega) (by omega)) ?_
  rw [ztn_nI (show l1 < 2147483648 by omega)]
  refine zT_lt ?_
  generalize u7 : zup N6 253 l1 (0) = N7
  have h19_7 : N7 242 19 = nI l1 := by rw [← u7, zup_o (by omega)]; exact h19_6
  rw [h19_7]
  refine zT_ck (zin_nI (by omega) (by omega)) ?_
  rw [ztn_nI (show l1 < 2147483648 by omega)]
  refine zT_lt ?_
  generalize u8 : zup N7 254 l1 (0) = N8
  have h19_8 : N8 242 19 = nI l1 := by rw [← u8, zup_o (by omega)]; exact h19_7
  rw [h19_8]
  refine zT_ck (zin_nI (by omega) (by omega)) ?_
  rw [ztn_nI (show l1 < 2147483648 by omega)]
  refine zT_lt ?_
  generalize u9 : zup N8 255 l1 (0) = N9
  have h19_9 : N9 242 19 = nI l1 := by rw [← u9, zup_o (by omega)]; exact h19_8
  rw [h19_9]
  refine zT_ck (zin_nI (by omega) (by omega)) ?_
  rw [ztn_nI (show l1 < 2147483648 by omega)]
  refine zT_lt ?_
  generalize u10 : zup N9 256 l1 (7) = N10
  have h19_10 : N10 242 19 = nI l1 := by rw [← u10, zup_o (by omega)]; exact h19_9
  rw [h19_10]
  refine zT_ck (zin_nI (by omega) (by omega)) ?_
  rw [ztn_nI (show l1 < 2147483648 by omega)]
  refine zT_lt ?_
  generalize u11 : zup N10 257 l1 (0) = N11
  have h19_11 : N11 242 19 = nI l1 := by rw [← u11, zup_o (by omega)]; exact h19_10
  rw [h19_11]
  refine zT_lt ?_
  generalize u12 : zup N11 242 31 (130 * nI l1) = N12
  have h19_12 : N12 242 19 = nI l1 := by rw [← u12, zup_o (by omega)]; exact h19_11
  rw [h19_12]
  refine zT_lt ?_
  generalize u13 : zup N12 242 37 (420 * nI l1) = N13
  have h19_13 : N13 242 19 = nI l1 := by rw [← u13, zup_o (by omega)]; exact h19_12
  have w0 : N13 242 11 = 0 := by rw [← u13, zup_o (by omega), ← u12, zup_o (by omega), ← u11, zup_o (by omega), ← u10, zup_o (by omega), ← u9, zup_o (by omega), ← u8, zup_o (by omega), ← u7, zup_o (by omega), ← u6, zup_o (by omega), ← u5, zup_o (by omega), ← u4, zup_o (by omega), ← u3, zup_o (by omega), ← u2, zup_o (by omega), ← u1, zup_o (by omega), ← u0, zup_same]
  have w1 : N13 242 12 = 0 := by rw [← u13, zup_o (by omega), ← u12, zup_o (by omega), ← u11, zup_o (by omega), ← u10, zup_o (by omega), ← u9, zup_o (by omega), ← u8, zup_o (by omega), ← u7, zup_o (by omega), ← u6, zup_o (by omega), ← u5, zup_o (by omega), ← u4, zup_o (by omega), ← u3, zup_o (by omega), ← u2, zup_o (by omega), ← u1, zup_same]
  have w2 : N13 242 13 = 0 := by rw [← u13, zup_o (by omega), ← u12, zup_o (by omega), ← u11, zup_o (by omega), ← u10, zup_o (by omega), ← u9, zup_o (by omega), ← u8, zup_o (by omega), ← u7, zup_o (by omega), ← u6, zup_o (by omega), ← u5, zup_o (by omega), ← u4, zup_o (by omega), ← u3, zup_o (by omega), ← u2, zup_same]
  have w3 : N13 242 15 = 0 := by rw [← u13, zup_o (by omega), ← u12, zup_o (by omega), ← u11, zup_o (by omega), ← u10, zup_o (by omega), ← u9, zup_o (by omega), ← u8, zup_o (by omega), ← u7, zup_o (by omega), ← u6, zup_o (by omega), ← u5, zup_o (by omega), ← u4, zup_o (by omega), ← u3, zup_same]
  have w4 : N13 242 19 = nI l1 := by rw [← u13, zup_o (by omega), ← u12, zup_o (by omega), ← u11, zup_o (by omega), ← u10, zup_o (by omega), ← u9, zup_o (by omega), ← u8, zup_o (by omega), ← u7, zup_o (by omega), ← u6, zup_o (by omega), ← u5, zup_o (by omega), ← u4, zup_same]
  have w5 : N13 242 20 = 0 := by rw [← u13, zup_o (by omega), ← u12, zup_o (by omega), ← u11, zup_o (by omega), ← u10, zup_o (by omega), ← u9, zup_o (by omega), ← u8, zup_o (by omega), ← u7, zup_o (by omega), ← u6, zup_o (by omega), ← u5, zup_same]
  have w6 : N13 251 l1 = 0 := by rw [← u13, zup_o (by omega), ← u12, zup_o (by omega), ← u11, zup_o (by omega), ← u10, zup_o (by omega), ← u9, zup_o (by omega), ← u8, zup_o (by omega), ← u7, zup_o (by omega), ← u6, zup_same]
  have w7 : N13 253 l1 = 0 := by rw [← u13, zup_o (by omega), ← u12, zup_o (by omega), ← u11, zup_o (by omega), ← u10, zup_o (by omega), ← u9, zup_o (by omega), ← u8, zup_o (by omega), ← u7, zup_same]
  have w8 : N13 254 l1 = 0 := by rw [← u13, zup_o (by omega), ← u12, zup_o (by omega), ← u11, zup_o (by omega), ← u10, zup_o (by omega), ← u9, zup_o (by omega), ← u8, zup_same]
  have w9 : N13 255 l1 = 0 := by rw [← u13, zup_o (by omega), ← u12, zup_o (by omega), ← u11, zup_o (by omega), ← u10, zup_o (by omega), ← u9, zup_same]
  have w10 : N13 256 l1 = 7 := by rw [← u13, zup_o (by omega), ← u12, zup_o (by omega), ← u11, zup_o (by omega), ← u10, zup_same]
  have w11 : N13 257 l1 = 0 := by rw [← u13, zup_o (by omega), ← u12, zup_o (by omega), ← u11, zup_same]
  have w12 : N13 242 31 = 130 * nI l1 := by rw [← u13, zup_o (by omega), ← u12, zup_same]
  have w13 : N13 242 37 = 420 * nI l1 := by rw [← u13, zup_same]
  have wg : zag (rrA l1) M8 N13 := by
    rw [← u13, ← u12, ← u11, ← u10, ← u9, ← u8, ← u7, ← u6, ← u5, ← u4, ← u3, ← u2, ← u1, ← u0]
    exact ((((((((((((((zag.rf).up (rr_2 (by omega))).up (rr_2 (by omega))).up (rr_2 (by omega))).up (rr_2 (by omega))).up (rr_1 (by omega))).up (rr_2 (by omega))).up (rr_3 (by omega))).up (rr_3 (by omega))).up (rr_3 (by omega))).up (rr_3 (by omega))).up (rr_3 (by omega))).up (rr_3 (by omega))).up (rr_2 (by omega))).up (rr_2 (by omega))
  have wk : tkR N13 K V P c := k8.eq (fun b i b1 b2 => by rw [← u13, zup_o (by omega), ← u12, zup_o (by omega), ← u11, zup_o (by omega), ← u10, zup_o (by omega), ← u9, zup_o (by omega), ← u8, zup_o (by omega), ← u7, zup_o (by omega), ← u6, zup_o (by omega), ← u5, zup_o (by omega), ← u4, zup_o (by omega), ← u3, zup_o (by omega), ← u2, zup_o (by omega), ← u1, zup_o (by omega), ← u0, zup_o (by omega)])
  have w99 : N13 242 2 = 0 := by rw [← u13, zup_o (by omega), ← u12, zup_o (by omega), ← u11, zup_o (by omega), ← u10, zup_o (by omega), ← u9, zup_o (by omega), ← u8, zup_o (by omega), ← u7, zup_o (by omega), ← u6, zup_o (by omega), ← u5, zup_o (by omega), ← u4, zup_o (by omega), ← u3, zup_o (by omega), ← u2, zup_o (by omega), ← u1, zup_o (by omega), ← u0, zup_o (by omega)]; exact z2
  clear u0 u1 u2 u3 u4 u5 u6 u7 u8 u9 u10 u11 u12 u13
  refine zT_bd (zT_w (X12_none hR hl w4) ?_)
  rintro M36 ⟨n1, n2, g36⟩
  have v : ∀ a k, a ≠ 258 → a ≠ 259 → M36 a k = N13 a k := fun a k h1 h2 => g36 a k (by omega)
  have gB : zag (rrA l1) M M36 := (gA.tr wg).tr (g36.mo (fun b k e => rr_4 e))
  have y2 : M36 242 2 = 0 := by
    rw [v _ _ (by omega) (by omega)]
    exact w99
  have hk : tkR M36 K V P c := wk.eq (fun b i b1 b2 => v b i (by omega) (by omega))
  have hS : reS l1 K V P c M36 L9 0 ([], ru0, none) M36 L9 := by
    refine ⟨⟨?_, ?_⟩, Nat.zero_le _, ⟨by decide, fun i hi => absurd hi (by simp), dP_1 (show dO [(1, 3)] 0 by simp [dO]), dP_1 (show dO [(0, 0)] 0 by simp [dO]), Or.inl rfl, fun _ => by decide⟩, ⟨?_, ?_⟩, ⟨?_, ?_, fun j hj => absurd hj (by simp)⟩, ⟨?_, ?_, ?_, ?_, ?_⟩, ⟨130 * l1, 420 * l1, ?_, ?_, Nat.le_refl _, Nat.le_refl _, Nat.le_refl _, by omega, Or.inl ⟨n1, rfl⟩, Or.inl ⟨n2, rfl⟩⟩, ?_, zag.rf, fun _ _ _ => rfl⟩
    · rw [v _ _ (by omega) (by omega)]; exact w0
    · rw [v _ _ (by omega) (by omega)]; exact w2
    · rw [v _ _ (by omega) (by omega)]; exact w1
    · rw [v _ _ (by omega) (by omega)]; exact w4
    · rw [v _ _ (by omega) (by omega)]; exact w6
    · rw [v _ _ (by omega) (by omega)]; exact w5
    · rw [v _ _ (by omega) (by omega)]; exact w7
    · rw [v _ _ (by omega) (by omega)]; exact w8
    · rw [v _ _ (by omega) (by omega)]; exact w9
    · rw [v _ _ (by omega) (by omega)]; exact w10
    · rw [v _ _ (by omega) (by omega)]; exact w11
    · rw [v _ _ (by omega) (by omega), w12]; rcases hll with ⟨_, rfl⟩ | ⟨_, rfl⟩ <;> decide
    · rw [v _ _ (by omega) (by omega), w13]; rcases hll with ⟨_, rfl⟩ | ⟨_, rfl⟩ <;> decide
    · show M36 242 15 = 0
      rw [v _ _ (by omega) (by omega)]; exact w3
  refine zT_bd (zT_w (X12_lines hR hk hF hl hS) ?_)
  rw [ert]
  rintro ⟨N, L4⟩ hO
  dsimp only at hO ⊢
  rcases hO with ⟨f, r1, hD, gN, lN⟩ | ⟨⟨t1, ns, ru1, w⟩, r1, hS1⟩
  · obtain ⟨h1, h13, h14⟩ := id hD
    refine zT_if0 hD.ne.2.1 ?_
    refine zT_w (X12_bad h13 (by rw [← h13]; exact hD.ne.2.1) _) ?_
    rintro ⟨r, N1, L5⟩ ⟨rfl, rfl, rfl⟩
    refine ⟨Or.inl ⟨Or.inl ⟨f, r1, rfl, ?_⟩, ?_⟩, ?_, fun b j b1 b2 => (lN b j b2).trans (gl b j b1)⟩
    · show zup N 242 17 (N 242 14) 242 17 = _
      rw [zup_same]
      exact h14
    · exact (gB.tr (gN.mo (fun b k e => Or.inl e))).up (rr_1 (by omega))
    · show zup N 242 17 (N 242 14) 242 2 = _
      rw [zup_o (by omega), gN 242 2 (reA_no (by omega))]
      exact y2
  · obtain ⟨hA, _, hx, ⟨_, h19⟩, ⟨h51, _, hns⟩, _, _, hW, gN, lN⟩ := id hS1
    have h13 : N 242 13 = 0 := hA.2
    refine zT_if1 (by rw [h13]; exact Int32.le_refl _) ?_
    cases w with
    | some e =>
      obtain ⟨h1, h15, h16, _⟩ := hW
      have hp : ¬ nI e.1 ≤ 0 := by
        rcases h1 with e1 | e1 <;> rw [e1] <;> decide
      refine zT_if0 (by rw [h15]; exact hp) ?_
      refine zT_w (X12_poor h13 h15 hp _) ?_
      rintro ⟨r, N1, L5⟩ ⟨rfl, rfl, rfl⟩
      refine ⟨Or.inl ⟨Or.inr ⟨t1, ns, ru1, e, r1, rfl, ?_⟩, ?_⟩, ?_, fun b j b1 b2 => (lN b j b2).trans (gl b j b1)⟩
      · show zup N 242 17 (N 242 16) 242 17 = _
        rw [zup_same]
        exact h16
      · exact (gB.tr (gN.mo (fun b k e => Or.inl e))).up (rr_1 (by omega))
      · show zup N 242 17 (N 242 16) 242 2 = _
        rw [zup_o (by omega), gN 242 2 (reA_no (by omega))]
        exact y2
    | none =>
      have h15 : N 242 15 = 0 := hW
      refine zT_if1 (by rw [h15]; exact Int32.le_refl _) ?_
      refine zT_w (X12_fine hR hl hx.1 h13 h15 h19 h51) ?_
      rintro ⟨r, N1, L5⟩ ⟨p1, p2, p3, p4, p5, p6, p7, p8, p9, rfl, gg⟩
      dsimp only at p1 p2 p3 p4 p5 p6 p7 p8 p9 gg ⊢
      refine ⟨Or.inr ⟨t1, ns, ru1, r1, p1, p2, p3, ?_, fun j hj => ?_, p5, p6, p7, p8, p9, ?_⟩, ?_, fun b j b1 b2 => (lN b j b2).trans (gl b j b1)⟩
      · refine (reS.mz hl hk.1 hS1).eq ⟨?_, ?_, ?_, ?_⟩
        · exact fun a a1 a2 => gg a l1 (by omega)
        · exact fun a k a1 a2 _ _ => gg a k (by omega)
        · exact fun a k a1 a2 _ _ => gg a k (by omega)
        · exact fun a k a1 a2 _ _ => gg a k (by omega)
      · show N1 270 j = _
        rw [p4 j hj]
        exact (hns j hj).2
      · refine ((gB.tr (gN.mo (fun b k e => Or.inl e))).mo (fun b k e => Or.inl e)).tr (gg.mo (fun b k e => ?_))
        rcases e with e | e | ⟨e, e1⟩
        · exact Or.inr (Or.inl e)
        · exact Or.inr (Or.inr (Or.inl e))
        · rcases e1 with e1 | e1
          · exact Or.inl (rr_1 (Or.inr (Or.inr (Or.inr (Or.inr ⟨e, by omega⟩)))))
          · exact Or.inr (Or.inr (Or.inr ⟨e, e1⟩))
      · show N1 242 2 = 0
        rw [gg 242 2 (by omega), gN 242 2 (reA_no (by omega))]
        exact y2
end REF

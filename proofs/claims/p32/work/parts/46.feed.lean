/-! FEED */ -/
theorem sh_bits (x : BitVec 32) {s : Nat} (hs : s ≤ 24) : (x >>> s).signExtend 8 = (x.sshiftRight s).signExtend 8 := by
  apply BitVec.eq_of_getLsbD_eq
  intro i hi
  have h1 : s + i < 32 := by omega
  have h2 : ¬ 32 ≤ i := by omega
  have h3 : i < 32 := by omega
  simp [BitVec.getLsbD_signExtend, BitVec.getLsbD_ushiftRight, BitVec.getLsbD_sshiftRight, BitVec.getElem_sshiftRight, h1, h2, h3]
def byF (x : Int32) (j : Nat) : Int32 := (x >>> (nI (24 - 8 * j) &&& 31)).toInt8.toInt32.toInt8.toInt32
theorem sh_byte (x : Int32) {j : Nat} (hj : j < 4) : ((x.toUInt32 >>> ((nI (24 - 8 * j)).toUInt32 &&& Int32.toUInt32 31)).toInt32).toInt8.toInt32.toInt8.toInt32 = byF x j := by
  have key : ((x.toUInt32 >>> ((nI (24 - 8 * j)).toUInt32 &&& Int32.toUInt32 31)).toInt32).toInt8 = (x >>> (nI (24 - 8 * j) &&& 31)).toInt8 := by
    apply Int8.toBitVec_inj.1
    have e1 : ∀ y : Int32, y.toInt8.toBitVec = y.toBitVec.signExtend 8 := fun y => Int32.toBitVec_toInt8 y
    rw [e1, e1]
    rcases (show j = 0 ∨ j = 1 ∨ j = 2 ∨ j = 3 by omega) with rfl | rfl | rfl | rfl
    · exact sh_bits x.toBitVec (s := 24) (by omega)
    · exact sh_bits x.toBitVec (s := 16) (by omega)
    · exact sh_bits x.toBitVec (s := 8) (by omega)
    · exact sh_bits x.toBitVec (s := 0) (by omega)
  unfold byF
  rw [key]
def putF (f : Nat → Int32) (len : Nat) (x : Int32) : Nat → Int32 := fun i => if len ≤ i ∧ i < len + 4 then byF x (i - len) else f i
theorem X8_put {R : zR} {M : zM} (hR : R 3 0 = 4) {len : Nat} (hl : M 3 1 = nI len) (h4 : len + 4 ≤ 2000) (x : Int32) : zT (f_X8_put R M 3 x) (fun M1 => M1 3 1 = nI (len + 4) ∧ M1 4 = putF (M 4) len x ∧ zag (fun b k => (b = 3 ∧ k = 1) ∨ b = 4) M M1) := by
  unfold f_X8_put
  refine zT_bd ?_
  refine zT_for 4 (fun j v => v.1 = (if j < 4 then nI (24 - 8 * j) else -8) ∧ v.2 3 1 = nI (len + j) ∧ (∀ i, v.2 4 i = if len ≤ i ∧ i < len + j then byF x (i - len) else M 4 i) ∧ zag (fun b k => (b = 3 ∧ k = 1) ∨ b = 4) M v.2) ⟨rfl, hl, fun i => by rw [if_neg (by omega)], zag.rf⟩ (by omega) ?_ ?_
  · rintro j ⟨y, M1⟩ hj ⟨rfl, e1, d1, g1⟩
    simp only at e1 d1 g1 ⊢
    unfold b_X8_put_3
    rw [if_pos hj, hR, e1, sh_byte x hj]
    refine zT_if0 (nI_pos (by omega)) (zT_if0 (nI_pos (by omega)) (zT_if0 (by rw [nI_lit 2000]; exact nI_ge (by omega) (by omega)) (zT_lt (zT_ck (zin_nI (by omega) (by omega)) (zT_lt (zT_some ⟨?_, ?_, fun i => ?_, (g1.up (by omega)).up (by omega)⟩))))))
    · dsimp only
      rcases (show j = 0 ∨ j = 1 ∨ j = 2 ∨ j = 3 by omega) with rfl | rfl | rfl | rfl <;> decide
    · dsimp only
      rw [zup_a (by omega), zup_same, nI_1]
      rfl
    · dsimp only
      rw [ztn_nI (by omega)]
      by_cases c : i = len + j
      · subst c
        rw [zup_same, if_pos (by omega), show len + j - len = j by omega]
      · rw [zup_k c, zup_a (by omega), d1]
        by_cases c2 : len ≤ i ∧ i < len + j
        · rw [if_pos c2, if_pos (by omega)]
        · rw [if_neg c2, if_neg (by omega)]
  · rintro ⟨y, M1⟩ ⟨rfl, e1, d1, g1⟩
    simp only at e1 d1 g1 ⊢
    unfold b_X8_put_3
    refine zT_if1 (by decide) (zT_some (zT_some ⟨e1, funext d1, g1⟩))
theorem X12_put {R : zR} {M : zM} (hR : zMd R) {len : Nat} (hl : M 242 2 = nI len) (h4 : len + 4 ≤ 2000) (x : Int32) : zT (f_X12_put R M 242 x) (fun M1 => M1 242 2 = nI (len + 4) ∧ M1 243 = putF (M 243) len x ∧ zag (fun b k => (b = 242 ∧ k = 2) ∨ b = 243) M M1) := by
  unfold f_X12_put
  refine zT_bd ?_
  refine zT_for 4 (fun j v => v.1 = (if j < 4 then nI (24 - 8 * j) else -8) ∧ v.2 242 2 = nI (len + j) ∧ (∀ i, v.2 243 i = if len ≤ i ∧ i < len + j then byF x (i - len) else M 243 i) ∧ zag (fun b k => (b = 242 ∧ k = 2) ∨ b = 243) M v.2) ⟨rfl, hl, fun i => by rw [if_neg (by omega)], zag.rf⟩ (by omega) ?_ ?_
  · rintro j ⟨y, M1⟩ hj ⟨rfl, e1, d1, g1⟩
    simp only at e1 d1 g1 ⊢
    unfold b_X12_put_3
    rw [if_pos hj, hR.at (k := 1) (b := 243) rfl (by decide), e1]
    refine zT_if0 (nI_pos (by omega)) (zT_ck (zin_nI (by omega) (by omega)) (zT_lt ?_))
    have c2 : ∀ y : Int32, zup M1 243 (ztn (nI (len + j))) y 242 2 = nI (len + j) := fun y => by rw [zup_a (by omega)]; exact e1
    rw [c2]
    refine zT_lt (zT_some ⟨?_, ?_, fun i => ?_, (g1.up (by omega)).up (by omega)⟩)
    · dsimp only
      rcases (show j = 0 ∨ j = 1 ∨ j = 2 ∨ j = 3 by omega) with rfl | rfl | rfl | rfl <;> decide
    · dsimp only
      rw [zup_same, nI_1]
      rfl
    · dsimp only
      rw [zup_a (by omega), ztn_nI (by omega)]
      by_cases c : i = len + j
      · subst c
        rw [zup_same, if_pos (by omega), show len + j - len = j by omega]
        rfl
      · rw [zup_k c, d1]
        by_cases c2 : len ≤ i ∧ i < len + j
        · rw [if_pos c2, if_pos (by omega)]
        · rw [if_neg c2, if_neg (by omega)]
  · rintro ⟨y, M1⟩ ⟨rfl, e1, d1, g1⟩
    simp only at e1 d1 g1 ⊢
    unfold b_X12_put_3
    refine zT_if1 (by decide) (zT_some (zT_some ⟨e1, funext d1, g1⟩))
theorem putF_eq {f g : Nat → Int32} {len : Nat} {x : Int32} (h : ∀ i, i < len → f i = g i) : ∀ i, i < len + 4 → putF f len x i = putF g len x i := by
  intro i hi
  unfold putF
  by_cases c : len ≤ i ∧ i < len + 4
  · rw [if_pos c, if_pos c]
  · rw [if_neg c, if_neg c]
    exact h i (by omega)
section OPS
variable {R : zR} {M : zM} {ru : zRu} {q l n T S u x : Nat}
theorem zFeedO (h : zSt R M ru q l n T S u x) (a b c d e : Int32) : zT (f_X11_feed R M 2 a b c d e) (fun p => zT (f_X12_feed R p.2 242 a b c d e) (fun p1 => p1.1 = p.1 ∧ zOut R p1.2 (T + 3000000) (S + 300))) := by
  have o0 : zOut R M (T + 3000000) (S + 300) := h.out (by omega) (by omega)
  obtain ⟨t, t1, t2, t3, t4⟩ := h.tp
  have x0 : R 2 0 = 3 := h.xr.1
  have r3 : R 3 0 = 4 := h.rs.2.2.2.2.2.2.1
  unfold f_X11_feed f_X12_feed
  rw [x0, t2, nI_lit 20, nI_add, nI_lit 2000]
  by_cases ct : t + 20 ≤ 2000
  rotate_left
  · refine zT_if0 (nI_ge (by omega) (by omega)) (zT_some ?_)
    show zT (if M 242 2 + nI 20 ≤ nI 2000 then _ else _) _
    rw [t3, nI_add]
    exact zT_if0 (nI_ge (by omega) (by omega)) (zT_some ⟨rfl, o0⟩)
  refine zT_if1 (nI_le (by omega) (by omega)) (zT_bd (zT_w (X8_put r3 t2 (by omega) a) ?_))
  rintro M1 ⟨a1, b1, g1⟩
  refine zT_bd (zT_w (X8_put r3 a1 (by omega) b) ?_)
  rintro M2 ⟨a2, b2, g2⟩
  refine zT_bd (zT_w (X8_put r3 a2 (by omega) c) ?_)
  rintro M3 ⟨a3, b3, g3⟩
  refine zT_bd (zT_w (X8_put r3 a3 (by omega) d) ?_)
  rintro M4 ⟨a4, b4, g4⟩
  refine zT_bd (zT_w (X8_put r3 a4 (by omega) e) ?_)
  rintro M5 ⟨a5, b5, g5⟩
  rw [a5]
  have gc := (((g1.tr g2).tr g3).tr g4).tr g5
  have c2 : M5 242 2 = nI t := by rw [gc 242 2 (by omega)]; exact t3
  have c243 : M5 243 = M 243 := gc.row (fun k => by omega)
  refine zT_some ?_
  show zT (if M5 242 2 + nI 20 ≤ nI 2000 then _ else _) _
  rw [c2, nI_add]
  refine zT_if1 (nI_le (by omega) (by omega)) (zT_bd (zT_w (X12_put h.md c2 (by omega) a) ?_))
  rintro N1 ⟨p1, q1, k1⟩
  refine zT_bd (zT_w (X12_put h.md p1 (by omega) b) ?_)
  rintro N2 ⟨p2, q2, k2⟩
  refine zT_bd (zT_w (X12_put h.md p2 (by omega) c) ?_)
  rintro N3 ⟨p3, q3, k3⟩
  refine zT_bd (zT_w (X12_put h.md p3 (by omega) d) ?_)
  rintro N4 ⟨p4, q4, k4⟩
  refine zT_bd (zT_w (X12_put h.md p4 (by omega) e) ?_)
  rintro N5 ⟨p5, q5, k5⟩
  rw [p5]
  have kc := (((k1.tr k2).tr k3).tr k4).tr k5
  refine zT_some ⟨rfl, (h.tpS (M1 := N5) ((gc.mo (fun b k e => by omega)).tr (kc.mo (fun b k e => by omega))) ⟨t + 20, by omega, ?_, p5, ?_⟩).out (by omega) (by omega)⟩
  · rw [kc 3 1 (by omega)]
    exact a5
  · intro i hi
    have c4 : N5 4 = M5 4 := kc.row (fun k => by omega)
    rw [c4, b5, b4, b3, b2, b1, q5, q4, q3, q2, q1, c243]
    exact putF_eq (putF_eq (putF_eq (putF_eq (putF_eq t4)))) i hi
end OPS

/-! FREE -/
theorem moveF_back {w : Nat → Int32} {a b : Nat} {x : Int32} (hab : a ≠ b) : moveF (moveF w a b x) b a x = w := by
  funext j
  unfold moveF
  by_cases e : j = a
  · subst e
    rw [upd_s, upd_n hab, upd_n hab, upd_s, Int32.sub_add_cancel]
  · rw [upd_n e]
    by_cases e2 : j = b
    · subst e2
      rw [upd_s, upd_s, upd_n (Ne.symm hab), Int32.add_sub_cancel]
    · rw [upd_n e2, upd_n e2, upd_n e]
theorem moveF_back2 {w : Nat → Int32} {a b : Nat} {x : Int32} (hab : a ≠ b) : upd (upd (moveF w a b x) a (moveF w a b x a + x)) b (upd (moveF w a b x) a (moveF w a b x a + x) b - x) = w := by
  funext j
  have ma : moveF w a b x a = w a - x := by unfold moveF; rw [upd_n hab, upd_s]
  have mb : moveF w a b x b = w b + x := by unfold moveF; rw [upd_s, upd_n (Ne.symm hab)]
  by_cases e2 : j = b
  · subst e2
    rw [upd_s, upd_n (Ne.symm hab), mb, Int32.add_sub_cancel]
  rw [upd_n e2]
  by_cases e : j = a
  · subst e
    rw [upd_s, ma, Int32.sub_add_cancel]
  · rw [upd_n e]
    unfold moveF
    rw [upd_n e2, upd_n e]
def freeP (n : Nat) (ru : zRu) (w : Nat → Int32) (h k o : Nat) : Bool := !(decide (o = h)) && decide (wantF n ru (moveF w h o (nI (k + 1))) h = 0)
def freeQ (n : Nat) (ru : zRu) (w : Nat → Int32) (h k : Nat) : Bool := (seekF (freeP n ru w h k) n 0).isSome
def freeS (n : Nat) (ru : zRu) (w : Nat → Int32) (h m : Nat) : Int32 × Int32 :=
  if wantF n ru w h = 0 then (0, -2) else (seekF (freeQ n ru w h) m 0).elim (-2, -2) fun k => (nI (k + 1), (seekF (freeP n ru w h k) n 0).elim (-2) nI)
section TRY
variable {R : zR} {M : zM} {ru : zRu} {q l n T S u x : Nat}
theorem X0_isFree (h : zSt R M ru q l n T S u x) {w : Nat → Int32} (hw : RW M 195 n w) {a o : Nat} (ha : a < n) (ho : o < n) (hao : a ≠ o) (y : Int32) : zT (f_X0_isFreeBy R M 194 q (nI a) (nI o) y) (fun p => p.1 = (if wantF n ru (moveF w a o y) a = 0 then 1 else 0) ∧ RW p.2 195 n w ∧ zag zst M p.2) := by
  obtain ⟨t0, t1, t2, t3, t4, -⟩ := h.rt
  have ht : zTr 195 := by unfold zTr; omega
  unfold f_X0_isFreeBy
  rw [t3]
  refine zT_bd (zT_w (X6_move t4 hw ha ho y) ?_)
  rintro M1 ⟨w1, g1⟩
  have g1 := zblk.st ht g1
  refine zT_bd2 (zT_w ((h.sc (zst.sc g1)).wantC t4 ht w1 ha) ?_)
  rintro ⟨r, M2⟩ ⟨e2, w2, g2, f2⟩
  simp only at e2 w2 g2 ⊢
  have fin : ∀ s : Int32, zbool s = true → zT (j_X0_isFreeBy_28 R M2 194 (nI a) (nI o) y s) (fun p => p.1 = s ∧ RW p.2 195 n w ∧ zag zst M p.2) := fun s hs => by
    unfold j_X0_isFreeBy_28
    rw [t3]
    refine zT_bd (zT_w (X6_move t4 w2 ho ha y) ?_)
    rintro M3 ⟨w3, g3⟩
    rw [moveF_back hao] at w3
    exact zT_ck hs (zT_some ⟨rfl, w3, (g1.tr g2).tr (zblk.st ht g3)⟩)
  rw [e2]
  refine zT_if (fun c => ?_) (fun c => ?_)
  · rw [if_pos c]
    exact fin 1 (by decide)
  · rw [if_neg c]
    exact fin 0 (by decide)
theorem X0_free (h : zSt R M ru q l n T S u x) (hT : T + 3100000 < 2147483648) {a e : Nat} (ha : a < n) (ee : shF (rowF M) a = nI e) (he : e ≤ T) : zT (f_X0_findLeastGift R M 194 q 13 (nI a)) (fun M1 => M1 194 1 = (freeS n ru (rowF M) a (if 2000 < e then 2000 else e)).1 ∧ M1 194 2 = (freeS n ru (rowF M) a (if 2000 < e then 2000 else e)).2 ∧ zag zsk M M1) := by
  have hn := h.n10
  obtain ⟨t0, t1, t2, t3, t4, -⟩ := h.rt
  have ht : zTr 195 := by unfold zTr; omega
  unfold f_X0_findLeastGift freeS
  rw [t3]
  refine zT_lt (zT_lt (zT_bd ?_))
  have g0 : zag zsk M (zup (zup M 194 1 0) 194 2 (-2)) := (zag.rf.up (Or.inl ⟨by omega, by omega⟩)).up (Or.inl ⟨by omega, by omega⟩)
  have z1 : zup (zup M 194 1 0) 194 2 (-2) 194 1 = 0 := by rw [zup_k (by omega), zup_same]
  have z2 : zup (zup M 194 1 0) 194 2 (-2) 194 2 = -2 := zup_same
  generalize zup (zup M 194 1 0) 194 2 (-2) = M0 at g0 z1 z2 ⊢
  have h0 := h.sc (zsk.sc g0)
  refine zT_w (h0.copyC t4 ht) ?_
  rintro M1 ⟨w1, g1, f1⟩
  rw [zsk.rws g0] at w1 f1
  have h1 := h0.sc (zst.sc g1)
  refine zT_bd2 (zT_w (h1.wantC t4 ht w1 ha) ?_)
  rintro ⟨r, M2⟩ ⟨e2, w2, g2, f2⟩
  simp only at e2 w2 g2 f2 ⊢
  have g12 := g1.tr g2
  have g02 := g0.tr (zst.sk g12)
  have h2 := h.sc (zsk.sc g02)
  have y1 : M2 194 1 = 0 := by rw [g12 194 1 (by unfold zst; omega)]; exact z1
  have y2 : M2 194 2 = -2 := by rw [g12 194 2 (by unfold zst; omega)]; exact z2
  rw [e2]
  refine zT_if (fun c => zT_some ?_) (fun c => zT_bd (zT_eq (X6_shown h2.r13 h2.row ha) ?_))
  · rw [if_pos c]
    exact ⟨y1, y2, g02⟩
  rw [if_neg c, show shF (rowF M2) a = nI e by rw [zsk.rws g02]; exact ee]
  obtain ⟨m, hm⟩ : ∃ m, m = if 2000 < e then 2000 else e := ⟨_, rfl⟩
  have em : (if (2000 : Int32) < nI e then (2000 : Int32) else nI e) = nI m := by
    rw [hm, nI_lit 2000]
    by_cases c2 : 2000 < e
    · rw [if_pos (nI_lt c2 (by omega)), if_pos c2]
    · rw [if_neg (nI_nlt (by omega) (by omega)), if_neg c2]
  have mb : m ≤ 2000 := by rw [hm]; split <;> omega
  rw [em, ← hm]
  -- one gift's size
  have inner : ∀ (k : Nat) (M3 : zM), k < m → RW M3 195 n (rowF M) → zag zst M2 M3 → zT (zloop zN (fun v => b_X0_findLeastGift_58 R v.2 194 q 13 (nI a) (nI m) (nI (k + 1)) v.1) ((0 : Int32), M3)) (Sum.elim (fun p => ∃ j, seekF (freeP n ru (rowF M) a k) n 0 = some j ∧ p.1 = nI j ∧ RW p.2 195 n (rowF M) ∧ zag zst M2 p.2) (fun M4 => seekF (freeP n ru (rowF M) a k) n 0 = none ∧ RW M4 195 n (rowF M) ∧ zag zst M2 M4)) := by
    intro k M3 hk w3 g3
    refine zT_seek n (freeP n ru (rowF M) a k) (fun j v => v.1 = nI j ∧ RW v.2 195 n (rowF M) ∧ zag zst M2 v.2) ⟨rfl, w3, g3⟩ (by omega) ?_ ?_ ?_
    · rintro j ⟨y, M4⟩ hj ⟨rfl, w4, g4⟩ hp
      simp only at w4 g4 ⊢
      have h4 := h2.sc (zst.sc g4)
      unfold b_X0_findLeastGift_58
      rw [show M4 13 4 = nI n from h4.rw0.2.1]
      refine zT_if0 (nI_ge hj (by omega)) ?_
      by_cases ja : j = a
      · exact zT_if1 (by rw [ja]) (zT_some ⟨nI_1 _, w4, g4⟩)
      · refine zT_if0 (fun q => ja (nI_inj (by omega) (by omega) q)) (zT_bd2 (zT_w (X0_isFree h4 w4 ha hj (Ne.symm ja) _) ?_))
        rintro ⟨r, M5⟩ ⟨e5, w5, g5⟩
        simp only at e5 w5 g5 ⊢
        unfold freeP at hp
        have hp2 : ¬ wantF n ru (moveF (rowF M) a j (nI (k + 1))) a = 0 := by simpa [ja] using hp
        rw [if_neg hp2] at e5
        exact zT_if1 e5 (zT_some ⟨nI_1 _, w5, g4.tr g5⟩)
    · rintro j ⟨y, M4⟩ hj ⟨rfl, w4, g4⟩ hp hs
      simp only at w4 g4 ⊢
      have h4 := h2.sc (zst.sc g4)
      unfold b_X0_findLeastGift_58
      rw [show M4 13 4 = nI n from h4.rw0.2.1]
      unfold freeP at hp
      simp only [Bool.and_eq_true, Bool.not_eq_true', decide_eq_false_iff_not, decide_eq_true_eq] at hp
      obtain ⟨ja, hp2⟩ := hp
      refine zT_if0 (nI_ge hj (by omega)) (zT_if0 (fun q => ja (nI_inj (by omega) (by omega) q)) (zT_bd2 (zT_w (X0_isFree h4 w4 ha hj (Ne.symm ja) _) ?_)))
      rintro ⟨r, M5⟩ ⟨e5, w5, g5⟩
      simp only at e5 w5 g5 ⊢
      rw [if_pos hp2] at e5
      exact zT_if0 (by rw [e5]; decide) (zT_some ⟨j, hs, rfl, w5, g4.tr g5⟩)
    · rintro ⟨y, M4⟩ ⟨rfl, w4, g4⟩ hs
      simp only at w4 g4 ⊢
      have h4 := h2.sc (zst.sc g4)
      unfold b_X0_findLeastGift_58
      rw [show M4 13 4 = nI n from h4.rw0.2.1]
      exact zT_if1 (nI_le (Nat.le_refl _) (by omega)) (zT_some ⟨hs, w4, g4⟩)
  refine zT_bd ?_
  refine zT_seek m (freeQ n ru (rowF M) a) (fun k v => v.1 = nI (k + 1) ∧ RW v.2 195 n (rowF M) ∧ zag zst M2 v.2) ⟨rfl, w2, zag.rf⟩ (by omega) ?_ ?_ ?_
  · rintro k ⟨y, M3⟩ hk ⟨rfl, w3, g3⟩ hp
    simp only at w3 g3 ⊢
    unfold b_X0_findLeastGift_48
    refine zT_if0 (nI_nlt (by omega) (by omega)) (zT_bd (zT_w (inner k M3 hk w3 g3) ?_))
    rintro (p | M4) hx
    · obtain ⟨j, s, -⟩ := hx
      unfold freeQ at hp
      rw [s] at hp
      exact absurd hp (by simp)
    · obtain ⟨s, w4, g4⟩ := hx
      exact zT_some ⟨nI_1 _, w4, g4⟩
  · rintro k ⟨y, M3⟩ hk ⟨rfl, w3, g3⟩ hp hs
    simp only at w3 g3 ⊢
    unfold b_X0_findLeastGift_48
    refine zT_if0 (nI_nlt (by omega) (by omega)) (zT_bd (zT_w (inner k M3 hk w3 g3) ?_))
    rintro (⟨p, M4⟩ | M4) hx
    · obtain ⟨j, s, e4, w4, g4⟩ := hx
      simp only at e4 w4 g4
      rw [hs]
      simp only [Option.elim_some]
      rw [s]
      refine zT_some (zT_lt (zT_lt (zT_some ⟨?_, ?_, ((g02.tr (zst.sk g4)).up (Or.inl ⟨by omega, by omega⟩)).up (Or.inl ⟨by omega, by omega⟩)⟩)))
      · rw [zup_k (by omega), zup_same]
      · rw [zup_same]
        exact e4
    · obtain ⟨s, w4, g4⟩ := hx
      unfold freeQ at hp
      rw [s] at hp
      exact absurd hp (by simp)
  · rintro ⟨y, M3⟩ ⟨rfl, w3, g3⟩ hs
    simp only at w3 g3 ⊢
    unfold b_X0_findLeastGift_48
    rw [hs]
    refine zT_if1 (nI_lt (by omega) (by omega)) (zT_some (zT_lt (zT_some ⟨zup_same, ?_, (g02.tr (zst.sk g3)).up (Or.inl ⟨by omega, by omega⟩)⟩)))
    rw [zup_k (by omega), g3 194 2 (by unfold zst; omega)]
    exact y2
/-- the reference's cells, but freeTo -/
def zsq : Nat → Nat → Prop := fun b k => tlA b k ∨ b = 271
theorem zsq.sr {M1 : zM} (g : zag zsq M M1) : zag zsr M M1 := g.mo (fun b k e => by unfold zsq tlA at e; unfold zsr; omega)
theorem X12_frees (h : zSt R M ru q l n T S u x) (hT : T + 3100000 < 2147483648) {a e : Nat} (ha : a < n) (ee : shF (rowF M) a = nI e) (he : e ≤ T) : zT (f_X12_frees R M 242 (nI a)) (fun p => p.1 = (freeS n ru (rowF M) a (if 2000 < e then 2000 else e)).1 ∧ p.2 242 51 = (freeS n ru (rowF M) a (if 2000 < e then 2000 else e)).2 ∧ zag zsr M p.2) := by
  have hn := h.n10
  unfold f_X12_frees freeS
  refine zT_bd (zT_w h.copyR ?_)
  rintro M1 ⟨e1, g1, f1⟩
  refine zT_lt (zT_bd2 ?_)
  have e0 : zup M1 242 51 (-2) 271 = rowF M := by rw [zup_r (by decide)]; exact e1
  have g0 : zag zsr M (zup M1 242 51 (-2)) := g1.up (by unfold zsr; omega)
  have z0 : zup M1 242 51 (-2) 242 51 = -2 := zup_same
  generalize zup M1 242 51 (-2) = M2 at e0 g0 z0 ⊢
  have h2 := h.sc (zsr.sc g0)
  have want : ∀ (M3 : zM) (w : Nat → Int32), zag zsq M2 M3 → M3 271 = w → zGd n T S w → zT (f_X12_wanted R M3 242 (nI a)) (fun p => p.1 = wantF n ru w a ∧ p.2 271 = w ∧ zag zsq M2 p.2) := fun M3 w g e hg => by
    have h3 := h2.sc (zsr.sc (zsq.sr g))
    refine zT_w (X12_wanted h.md h3.ms h3.l18 (by rw [e]; exact hg) (by omega) ha) ?_
    rintro ⟨y, M4⟩ ⟨e4, g4⟩
    rw [e] at e4
    exact ⟨e4, (tl271 g4).trans e, g.tr (g4.mo (fun b k q => Or.inl q))⟩
  refine zT_w (want M2 _ zag.rf e0 h.gd) ?_
  rintro ⟨r, M3⟩ ⟨e3, e3b, g3⟩
  simp only at e3 e3b g3 ⊢
  have y3 : M3 242 51 = -2 := by rw [g3 242 51 (by unfold zsq tlA; omega)]; exact z0
  rw [e3]
  refine zT_if (fun c => zT_some ?_) (fun c => zT_bd (zT_eq (X12_shownOf h.md (by omega)) ?_))
  · rw [if_pos c]
    exact ⟨rfl, y3, g0.tr (zsq.sr g3)⟩
  rw [if_neg c, e3b, ee]
  obtain ⟨m, hm⟩ : ∃ m, m = if 2000 < e then 2000 else e := ⟨_, rfl⟩
  have mb : m ≤ 2000 ∧ m ≤ e := by rw [hm]; split <;> omega
  rw [← hm]
  have r46 := h.r46
  have hz := zin_nI (k := a) (n := 60) (by omega) (by omega)
  have inner : ∀ (k : Nat) (M4 : zM), k < m → M4 271 = rowF M → zag zsq M2 M4 → zT (zloop zN (fun v => b_X12_frees_53 R v.2 242 (nI a) (nI m) (nI (k + 1)) v.1) ((0 : Int32), M4)) (Sum.elim (fun p => ∃ j, seekF (freeP n ru (rowF M) a k) n 0 = some j ∧ p.1 = nI j ∧ p.2 271 = rowF M ∧ zag zsq M2 p.2) (fun M5 => seekF (freeP n ru (rowF M) a k) n 0 = none ∧ M5 271 = rowF M ∧ zag zsq M2 M5)) := by
    intro k M4 hk e4 g4
    -- one house
    have one : ∀ (j : Nat) (M5 : zM) (Q : ((Int32 × zM) ⊕ ((Int32 × zM) ⊕ zM)) → Prop), j < n → j ≠ a → M5 271 = rowF M → zag zsq M2 M5 → (∀ M6, M6 271 = rowF M → zag zsq M2 M6 → (wantF n ru (moveF (rowF M) a j (nI (k + 1))) a = 0 → Q (.inr (.inl (nI j, M6)))) ∧ (¬ wantF n ru (moveF (rowF M) a j (nI (k + 1))) a = 0 → Q (.inl (nI (j + 1), M6)))) → zT (b_X12_frees_53 R M5 242 (nI a) (nI m) (nI (k + 1)) (nI j)) Q := by
      intro j M5 Q hj ja e5 g5 hQ
      unfold b_X12_frees_53
      have hz2 := zin_nI (k := j) (n := 60) (by omega) (by omega)
      rw [r46, show M5 271 (ztn (40 : Int32)) = nI n by rw [e5]; exact h.gd.2.1]
      refine zT_if0 (nI_ge hj (by omega)) (zT_if0 (fun q => ja (nI_inj (by omega) (by omega) q)) (zT_ck hz (zT_ck hz (zT_lt (zT_ck hz2 (zT_ck hz2 (zT_lt (zT_bd2 ?_))))))))
      rw [ztn_nI (by omega), ztn_nI (by omega)]
      have e6 : zup (zup M5 271 a (M5 271 a - nI (k + 1))) 271 j (zup M5 271 a (M5 271 a - nI (k + 1)) 271 j + nI (k + 1)) 271 = moveF (rowF M) a j (nI (k + 1)) := by
        rw [zup_upd, zup_upd, e5]
        rfl
      have g6 : zag zsq M2 (zup (zup M5 271 a (M5 271 a - nI (k + 1))) 271 j (zup M5 271 a (M5 271 a - nI (k + 1)) 271 j + nI (k + 1))) := (g5.up (Or.inr rfl)).up (Or.inr rfl)
      generalize zup (zup M5 271 a (M5 271 a - nI (k + 1))) 271 j (zup M5 271 a (M5 271 a - nI (k + 1)) 271 j + nI (k + 1)) = M6 at e6 g6 ⊢
      refine zT_w (want M6 _ g6 e6 (h.gd.move ha hj ee (by omega) (by omega) (by omega))) ?_
      rintro ⟨r, M7⟩ ⟨e7, e7b, g7⟩
      simp only at e7 e7b g7 ⊢
      have back : ∀ s0 : Int32, zT (j_X12_frees_108 R M7 242 (nI a) (nI m) (nI (k + 1)) (nI j) s0) (fun z => ∃ M8, M8 271 = rowF M ∧ zag zsq M2 M8 ∧ z = if s0 = 0 then .inl (nI (j + 1), M8) else .inr (.inl (nI j, M8))) := fun s0 => by
        unfold j_X12_frees_108
        rw [r46]
        refine zT_ck hz (zT_ck hz (zT_lt (zT_ck hz2 (zT_ck hz2 (zT_lt ?_)))))
        rw [ztn_nI (by omega), ztn_nI (by omega)]
        have e8 : zup (zup M7 271 a (M7 271 a + nI (k + 1))) 271 j (zup M7 271 a (M7 271 a + nI (k + 1)) 271 j - nI (k + 1)) 271 = rowF M := by
          rw [zup_upd, zup_upd, e7b]
          exact moveF_back2 (Ne.symm ja)
        have g8 : zag zsq M2 (zup (zup M7 271 a (M7 271 a + nI (k + 1))) 271 j (zup M7 271 a (M7 271 a + nI (k + 1)) 271 j - nI (k + 1))) := (g7.up (Or.inr rfl)).up (Or.inr rfl)
        generalize zup (zup M7 271 a (M7 271 a + nI (k + 1))) 271 j (zup M7 271 a (M7 271 a + nI (k + 1)) 271 j - nI (k + 1)) = M8 at e8 g8 ⊢
        refine zT_if (fun c => zT_some ⟨M8, e8, g8, ?_⟩) (fun c => zT_some ⟨M8, e8, g8, ?_⟩)
        · rw [if_pos c, nI_1]
        · rw [if_neg c]
      rw [e7]
      refine zT_if (fun c => zT_w (back 1) ?_) (fun c => zT_w (back 0) ?_)
      · rintro z ⟨M8, e8, g8, rfl⟩
        exact (hQ M8 e8 g8).1 c
      · rintro z ⟨M8, e8, g8, rfl⟩
        exact (hQ M8 e8 g8).2 c
    refine zT_seek n (freeP n ru (rowF M) a k) (fun j v => v.1 = nI j ∧ v.2 271 = rowF M ∧ zag zsq M2 v.2) ⟨rfl, e4, g4⟩ (by omega) ?_ ?_ ?_
    · rintro j ⟨y, M5⟩ hj ⟨rfl, e5, g5⟩ hp
      simp only at e5 g5 ⊢
      by_cases ja : j = a
      · unfold b_X12_frees_53
        rw [r46, show M5 271 (ztn (40 : Int32)) = nI n by rw [e5]; exact h.gd.2.1]
        exact zT_if0 (nI_ge hj (by omega)) (zT_if1 (by rw [ja]) (zT_some ⟨nI_1 _, e5, g5⟩))
      · unfold freeP at hp
        have hp2 : ¬ wantF n ru (moveF (rowF M) a j (nI (k + 1))) a = 0 := by simpa [ja] using hp
        exact one j M5 _ hj ja e5 g5 (fun M6 e6 g6 => ⟨fun c => absurd c hp2, fun _ => ⟨rfl, e6, g6⟩⟩)
    · rintro j ⟨y, M5⟩ hj ⟨rfl, e5, g5⟩ hp hs
      simp only at e5 g5 ⊢
      unfold freeP at hp
      simp only [Bool.and_eq_true, Bool.not_eq_true', decide_eq_false_iff_not, decide_eq_true_eq] at hp
      obtain ⟨ja, hp2⟩ := hp
      exact one j M5 _ hj ja e5 g5 (fun M6 e6 g6 => ⟨fun _ => ⟨j, hs, rfl, e6, g6⟩, fun c => absurd hp2 c⟩)
    · rintro ⟨y, M5⟩ ⟨rfl, e5, g5⟩ hs
      simp only at e5 g5 ⊢
      unfold b_X12_frees_53
      rw [r46, show M5 271 (ztn (40 : Int32)) = nI n by rw [e5]; exact h.gd.2.1]
      exact zT_if1 (nI_le (Nat.le_refl _) (by omega)) (zT_some ⟨hs, e5, g5⟩)
  have outer : zT (zloop zN (fun v => b_X12_frees_45 R v.2 242 (nI a) (nI m) v.1) ((1 : Int32), M3)) (Sum.elim (fun p => ∃ k j, seekF (freeQ n ru (rowF M) a) m 0 = some k ∧ seekF (freeP n ru (rowF M) a k) n 0 = some j ∧ p.1 = nI (k + 1) ∧ p.2.1 = nI j ∧ zag zsq M2 p.2.2) (fun M5 => seekF (freeQ n ru (rowF M) a) m 0 = none ∧ zag zsq M2 M5)) := by
    refine zT_seek m (freeQ n ru (rowF M) a) (fun k v => v.1 = nI (k + 1) ∧ v.2 271 = rowF M ∧ zag zsq M2 v.2) ⟨rfl, e3b, g3⟩ (by omega) ?_ ?_ ?_
    · rintro k ⟨y, M4⟩ hk ⟨rfl, e4, g4⟩ hp
      simp only at e4 g4 ⊢
      unfold b_X12_frees_45
      refine zT_if0 (nI_nlt (by omega) (by omega)) (zT_bd (zT_w (inner k M4 hk e4 g4) ?_))
      rintro (p | M5) hx
      · obtain ⟨j, s, -⟩ := hx
        unfold freeQ at hp
        rw [s] at hp
        exact absurd hp (by simp)
      · obtain ⟨s, e5, g5⟩ := hx
        exact zT_some ⟨nI_1 _, e5, g5⟩
    · rintro k ⟨y, M4⟩ hk ⟨rfl, e4, g4⟩ hp hs
      simp only at e4 g4 ⊢
      unfold b_X12_frees_45
      refine zT_if0 (nI_nlt (by omega) (by omega)) (zT_bd (zT_w (inner k M4 hk e4 g4) ?_))
      rintro (⟨p, M5⟩ | M5) hx
      · obtain ⟨j, s, e5, e5b, g5⟩ := hx
        exact zT_some ⟨k, j, hs, s, rfl, e5, g5⟩
      · obtain ⟨s, e5, g5⟩ := hx
        unfold freeQ at hp
        rw [s] at hp
        exact absurd hp (by simp)
    · rintro ⟨y, M4⟩ ⟨rfl, e4, g4⟩ hs
      simp only at e4 g4 ⊢
      unfold b_X12_frees_45
      exact zT_if1 (nI_lt (by omega) (by omega)) (zT_some ⟨hs, g4⟩)
  have fin : zT (zbd (zloop zN (fun v => b_X12_frees_45 R v.2 242 (nI a) (nI m) v.1) ((1 : Int32), M3)) fun e34 => Sum.elim (fun e35 => zlt (zup e35.2.2 242 51 e35.2.1) fun M37 => some (e35.1, M37)) (fun e36 => some ((-2 : Int32), e36)) e34) (fun p => p.1 = ((seekF (freeQ n ru (rowF M) a) m 0).elim (-2, -2) fun k => (nI (k + 1), (seekF (freeP n ru (rowF M) a k) n 0).elim (-2) nI)).1 ∧ p.2 242 51 = ((seekF (freeQ n ru (rowF M) a) m 0).elim (-2, -2) fun k => (nI (k + 1), (seekF (freeP n ru (rowF M) a k) n 0).elim (-2) nI)).2 ∧ zag zsr M p.2) := by
    refine zT_bd (zT_w outer ?_)
    rintro (⟨p, p2, M5⟩ | M5) hx
    · obtain ⟨k, j, s1, s2, a1, a2, g5⟩ := hx
      simp only at a1 a2 g5
      rw [s1]
      simp only [Option.elim_some]
      rw [s2]
      refine zT_lt (zT_some ⟨a1, ?_, (g0.tr (zsq.sr g5)).up (by unfold zsr; omega)⟩)
      show zup M5 242 51 p2 242 51 = _
      rw [zup_same]
      exact a2
    · obtain ⟨s1, g5⟩ := hx
      rw [s1]
      refine zT_some ⟨rfl, ?_, g0.tr (zsq.sr g5)⟩
      show M5 242 51 = -2
      rw [g5 242 51 (by unfold zsq tlA; omega)]
      exact z0
  by_cases c2 : 2000 ≤ e
  · refine zT_if1 (by rw [nI_lit 2000]; exact nI_le c2 (by omega)) ?_
    have m2 : m = 2000 := by rw [hm]; split <;> omega
    rw [m2] at fin ⊢
    exact fin
  · refine zT_if0 (by rw [nI_lit 2000]; exact nI_ge (by omega) (by omega)) (zT_bd (zT_eq (X12_shownOf h.md (by omega)) ?_))
    have m2 : m = e := by rw [hm]; split <;> omega
    rw [e3b, ee, ← m2]
    exact fin
theorem zFree (h : zSt R M ru q l n T S u x) (hT : T + 3100000 < 2147483648) (x1 x2 : Int32) : zAns R M ru q l n T S u x (f_X11_free R M 2 x1 x2) (fun M1 => f_X12_free R M1 242 x1 x2) := by
  have hn := h.n10
  unfold zAns f_X11_free f_X12_free
  rw [h.x2, h.q8, h.xr.2.2.2.2.2.1]
  rcases nI_cases x1 n (by omega) with ⟨a, ha, rfl⟩ | hx1
  rotate_left
  · exact zT_bd (zT_eq (hz_no h.rw0 hx1) (zT_if1 rfl (zT_some ⟨zag.rf, zT_bd (zT_eq (zHn h.md hn h.n40 hx1) (zT_if1 rfl (zT_some ⟨rfl, zag.rf⟩)))⟩)))
  refine zT_bd (zT_eq (hz_yes h.rw0 ha) (zT_if0 (by decide) ?_))
  have no : ∀ K : zM → Option (Int32 × zM), x2 < 0 ∨ 1 < x2 → zT (zbd (f_X12_isHouse R M 242 (nI a)) fun r1 => if r1 = 0 then some ((-1 : Int32), M) else zbd (f_X12_in x2 (0 : Int32) (1 : Int32)) fun r4 => if r4 = 0 then some ((-1 : Int32), M) else K M) (fun p1 => p1.1 = -1 ∧ zag zsr M p1.2) := fun K hy => zT_bd (zT_eq (zHy h.md hn h.n40 ha) (zT_if0 (by decide) (zT_bd (zT_eq (in_n hy) (zT_if1 rfl (zT_some ⟨rfl, zag.rf⟩))))))
  by_cases h0 : x2 < 0
  · exact zT_if1 h0 (zT_some ⟨zag.rf, no (fun M1 => zbd2 (f_X12_frees R M1 242 (nI a)) fun r7 M8 => if x2 = 0 then some (r7, M8) else if 0 ≤ r7 then some ((M8 242 51), M8) else some (r7, M8)) (Or.inl h0)⟩)
  refine zT_if0 h0 ?_
  by_cases h1' : x2 ≤ 1
  rotate_left
  · exact zT_if0 h1' (zT_some ⟨zag.rf, no (fun M1 => zbd2 (f_X12_frees R M1 242 (nI a)) fun r7 M8 => if x2 = 0 then some (r7, M8) else if 0 ≤ r7 then some ((M8 242 51), M8) else some (r7, M8)) (Or.inr (i_lt_of h1'))⟩)
  obtain ⟨e, he, ee⟩ := h.gd.sh ha
  refine zT_if1 h1' (zT_bd (zT_w (X0_free h hT ha ee he) ?_))
  rintro M1 ⟨q1, q2, g1⟩
  have h1 := h.sc (zsk.sc g1)
  have f1 := zsk.rws g1
  have key := X12_frees h1 hT ha (by rw [f1]; exact ee) he
  rw [f1] at key
  have neg : (freeS n ru (rowF M) a (if 2000 < e then 2000 else e)).1 < 0 → (freeS n ru (rowF M) a (if 2000 < e then 2000 else e)).1 = (freeS n ru (rowF M) a (if 2000 < e then 2000 else e)).2 := by
    unfold freeS
    split
    · intro q; exact absurd q (by decide)
    · cases hs : seekF (freeQ n ru (rowF M) a) (if 2000 < e then 2000 else e) 0 with
      | none => intro _; rfl
      | some k =>
        obtain ⟨_, b, _⟩ := seekF_lt _ _ _ hs
        have b2 : (if 2000 < e then 2000 else e) ≤ 2000 := by split <;> omega
        intro q
        exact absurd q (nI_pos (by omega))
  have rf : zT (zbd (f_X12_isHouse R M1 242 (nI a)) fun r1 => if r1 = 0 then some ((-1 : Int32), M1) else zbd (f_X12_in x2 (0 : Int32) (1 : Int32)) fun r4 => if r4 = 0 then some ((-1 : Int32), M1) else zbd2 (f_X12_frees R M1 242 (nI a)) fun r7 M8 => if x2 = 0 then some (r7, M8) else if 0 ≤ r7 then some ((M8 242 51), M8) else some (r7, M8)) (fun p1 => p1.1 = (if x2 = 0 then (freeS n ru (rowF M) a (if 2000 < e then 2000 else e)).1 else (freeS n ru (rowF M) a (if 2000 < e then 2000 else e)).2) ∧ zag zsr M1 p1.2) := by
    refine zT_bd (zT_eq (zHy h.md hn h1.n40 ha) (zT_if0 (by decide) (zT_bd (zT_eq (in_y h0 (by rw [Int32.not_lt]; exact h1')) (zT_if0 (by decide) (zT_bd2 (zT_w key ?_)))))))
    rintro ⟨y, M2⟩ ⟨a1, a2, g2⟩
    simp only at a1 a2 g2 ⊢
    refine zT_if (fun c => zT_some ⟨?_, g2⟩) (fun c => zT_if (fun c2 => zT_some ⟨?_, g2⟩) (fun c2 => zT_some ⟨?_, g2⟩))
    · rw [if_pos c]; exact a1
    · rw [if_neg c]; exact a2
    · rw [if_neg c, ← neg (by rw [← a1]; exact i_lt_of c2)]; exact a1
  rw [q1, q2]
  refine zT_if (fun c => zT_some ⟨g1, ?_⟩) (fun c => zT_some ⟨g1, ?_⟩)
  · rw [if_pos c] at rf
    exact rf
  · rw [if_neg c] at rf
    exact rf
end TRY

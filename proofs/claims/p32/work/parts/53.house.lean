/-! READ: the text, told by both -/
section SPEC
variable {K V : Nat → Int32} {E : Nat → Nat → Bool} {t c : Nat} {x : zTx}
theorem telS_20 (h : K t = 20) : telS K V E t x = (if x.1.length = 10 then .inl (2, t) else sB (goS t) fun t1 => sB (mustS K 1 t1) fun t2 => sB (mustS K 2 t2) fun t3 => sB (mustS K 4 t3) fun t4 => .inr (t4, (x.1 ++ [t1], x.2.1, if x.1.any (fun i => E i t1) then laterS x.2.2 3 t1 else x.2.2))) := if_pos h
theorem telS_21 (h : K t = 21) : telS K V E t x = sB (goS t) fun t1 => sB (mustS K 4 t1) fun t2 => .inr (t2, (x.1, ((1, x.2.1.1.2), x.2.1.2), x.2.2)) := by
  unfold telS
  rw [if_neg (by rw [h]; decide), if_pos h]
theorem telS_22 (h : K t = 22) : telS K V E t x = sB (goS t) fun t1 => sB (mustS K 4 t1) fun t2 => .inr (t2, (x.1, ((x.2.1.1.1, 1, x.2.1.1.2.2), x.2.1.2), x.2.2)) := by
  unfold telS
  rw [if_neg (by rw [h]; decide), if_neg (by rw [h]; decide), if_pos h]
theorem telS_23 (h : K t = 23) : telS K V E t x = sB (lawS K V t) fun r => .inr (r.1, (x.1, (x.2.1.1, r.2, x.2.1.2.2), x.2.2)) := by
  unfold telS
  rw [if_neg (by rw [h]; decide), if_neg (by rw [h]; decide), if_neg (by rw [h]; decide), if_pos h]
theorem telS_24 (h : K t = 24) : telS K V E t x = sB (lawS K V t) fun r => .inr (r.1, (x.1, (x.2.1.1, x.2.1.2.1, r.2), x.2.2)) := by
  unfold telS
  rw [if_neg (by rw [h]; decide), if_neg (by rw [h]; decide), if_neg (by rw [h]; decide), if_neg (by rw [h]; decide), if_pos h]
theorem telS_25 (h : K t = 25) : telS K V E t x = sB (goS t) fun t1 => if K t1 = 26 ∨ K t1 = 27 ∨ K t1 = 28 then sB (goS t1) fun t2 => sB (mustS K 2 t2) fun t3 => sB (mustS K 4 t3) fun t4 => .inr (t4, (x.1, ((x.2.1.1.1, x.2.1.1.2.1, K t1 - 26, V t2, x.2.1.1.2.2.2.2), x.2.1.2), if V t2 < 1 ∨ 30 < V t2 then laterS x.2.2 5 t2 else x.2.2)) else .inl (1, t1) := by
  unfold telS
  rw [if_neg (by rw [h]; decide), if_neg (by rw [h]; decide), if_neg (by rw [h]; decide), if_neg (by rw [h]; decide), if_neg (by rw [h]; decide), if_pos h]
theorem telS_29 (h : K t = 29) : telS K V E t x = sB (goS t) fun t1 => sB (mustS K 2 t1) fun t2 => sB (mustS K 4 t2) fun t3 => .inr (t3, (x.1, ((x.2.1.1.1, x.2.1.1.2.1, x.2.1.1.2.2.1, x.2.1.1.2.2.2.1, V t1), x.2.1.2), x.2.2)) := by
  unfold telS
  rw [if_neg (by rw [h]; decide), if_neg (by rw [h]; decide), if_neg (by rw [h]; decide), if_neg (by rw [h]; decide), if_neg (by rw [h]; decide), if_neg (by rw [h]; decide), if_pos h]
theorem telS_no (h : ¬ K t = 20 ∧ ¬ K t = 21 ∧ ¬ K t = 22 ∧ ¬ K t = 23 ∧ ¬ K t = 24 ∧ ¬ K t = 25 ∧ ¬ K t = 29) : telS K V E t x = .inl (1, t) := by
  unfold telS
  obtain ⟨h1, h2, h3, h4, h5, h6, h7⟩ := h
  rw [if_neg h1, if_neg h2, if_neg h3, if_neg h4, if_neg h5, if_neg h6, if_neg h7]
def xOk (K : Nat → Int32) (c : Nat) (x : zTx) : Prop := x.1.length ≤ 10 ∧ (∀ i, i ∈ x.1 → i + 1 ≤ c ∧ K i = 1 ∧ K (i + 1) = 2) ∧ dP (ruP x.2.1) ∧ dP (ruQ x.2.1) ∧ (ruH x.2.1 = 0 ∨ ruH x.2.1 = 1 ∨ ruH x.2.1 = 2) ∧ (x.2.2 = none → 0 < ruE x.2.1)
theorem laterS_n {w : Option tF} {k t : Nat} : laterS w k t ≠ none := by
  cases w <;> exact fun h => by cases h
theorem telS_ok {r : Nat × zTx} (hV : valS K V c) (hK : endS K c) (ht : t ≤ c) (hx : xOk K c x) (h : telS K V E t x = .inr r) : t < r.1 ∧ r.1 ≤ c ∧ xOk K c r.2 ∧ (r.2.2.2 = none → x.2.2 = none) := by
  obtain ⟨x1, x2, x3, x4, x5, x6⟩ := hx
  by_cases c0 : K t = 20
  · rw [telS_20 c0] at h
    by_cases c1 : x.1.length = 10
    · rw [if_pos c1] at h
      cases h
    rw [if_neg c1] at h
    obtain ⟨t1, h1, h⟩ := sB_i h
    obtain ⟨t2, h2, h⟩ := sB_i h
    obtain ⟨t3, h3, h⟩ := sB_i h
    obtain ⟨t4, h4, h⟩ := sB_i h
    obtain ⟨a1, b1⟩ := goS_ok hK ht (by rw [c0]; decide) h1
    obtain ⟨a2, b2, k2⟩ := mustS_ok (by decide) hK b1 h2
    obtain ⟨a3, b3, k3⟩ := mustS_ok (by decide) hK b2 h3
    obtain ⟨a4, b4, k4⟩ := mustS_ok (by decide) hK b3 h4
    cases h
    have hw : (if x.1.any (fun i => E i t1) = true then laterS x.2.2 3 t1 else x.2.2) = none → x.2.2 = none := fun z => by
      by_cases q : x.1.any (fun i => E i t1) = true
      · rw [if_pos q] at z
        exact absurd z laterS_n
      · rw [if_neg q] at z
        exact z
    refine ⟨by dsimp only; omega, b4, ⟨by rw [List.length_append, List.length_singleton]; omega, fun i hi => ?_, x3, x4, x5, fun z => x6 (hw z)⟩, hw⟩
    rcases List.mem_append.1 hi with q | q
    · exact x2 i q
    · have : i = t1 := by simpa using q
      subst this
      exact ⟨by omega, k2, by rw [← a2]; exact k3⟩
  by_cases c1 : K t = 21
  · rw [telS_21 c1] at h
    obtain ⟨t1, h1, h⟩ := sB_i h
    obtain ⟨t2, h2, h⟩ := sB_i h
    obtain ⟨a1, b1⟩ := goS_ok hK ht (by rw [c1]; decide) h1
    obtain ⟨a2, b2, k2⟩ := mustS_ok (by decide) hK b1 h2
    cases h
    exact ⟨by dsimp only; omega, b2, ⟨x1, x2, x3, x4, x5, x6⟩, fun z => z⟩
  by_cases c2 : K t = 22
  · rw [telS_22 c2] at h
    obtain ⟨t1, h1, h⟩ := sB_i h
    obtain ⟨t2, h2, h⟩ := sB_i h
    obtain ⟨a1, b1⟩ := goS_ok hK ht (by rw [c2]; decide) h1
    obtain ⟨a2, b2, k2⟩ := mustS_ok (by decide) hK b1 h2
    cases h
    exact ⟨by dsimp only; omega, b2, ⟨x1, x2, x3, x4, x5, x6⟩, fun z => z⟩
  by_cases c3 : K t = 23
  · rw [telS_23 c3] at h
    obtain ⟨r1, h1, h⟩ := sB_i h
    obtain ⟨a1, a2, a3, a4⟩ := lawS_ok hV hK ht (by rw [c3]; decide) h1
    cases h
    exact ⟨a3, a4, ⟨x1, x2, a1, x4, x5, x6⟩, fun z => z⟩
  by_cases c4 : K t = 24
  · rw [telS_24 c4] at h
    obtain ⟨r1, h1, h⟩ := sB_i h
    obtain ⟨a1, a2, a3, a4⟩ := lawS_ok hV hK ht (by rw [c4]; decide) h1
    cases h
    exact ⟨a3, a4, ⟨x1, x2, x3, a1, x5, x6⟩, fun z => z⟩
  by_cases c5 : K t = 25
  · rw [telS_25 c5] at h
    obtain ⟨t1, h1, h⟩ := sB_i h
    obtain ⟨a1, b1⟩ := goS_ok hK ht (by rw [c5]; decide) h1
    by_cases cc : K t1 = 26 ∨ K t1 = 27 ∨ K t1 = 28
    · rw [if_pos cc] at h
      obtain ⟨t2, h2, h⟩ := sB_i h
      obtain ⟨t3, h3, h⟩ := sB_i h
      obtain ⟨t4, h4, h⟩ := sB_i h
      obtain ⟨a2, b2⟩ := goS_ok hK b1 (by rcases cc with q | q | q <;> rw [q] <;> decide) h2
      obtain ⟨a3, b3, k3⟩ := mustS_ok (by decide) hK b2 h3
      obtain ⟨a4, b4, k4⟩ := mustS_ok (by decide) hK b3 h4
      cases h
      have hw : (if V t2 < 1 ∨ 30 < V t2 then laterS x.2.2 5 t2 else x.2.2) = none → x.2.2 = none ∧ ¬ V t2 < 1 := fun z => by
        by_cases q : V t2 < 1 ∨ 30 < V t2
        · rw [if_pos q] at z
          exact absurd z laterS_n
        · rw [if_neg q] at z
          exact ⟨z, fun w => q (Or.inl w)⟩
      refine ⟨by dsimp only; omega, b4, ⟨x1, x2, x3, x4, ?_, fun z => ?_⟩, fun z => (hw z).1⟩
      · show K t1 - 26 = 0 ∨ K t1 - 26 = 1 ∨ K t1 - 26 = 2
        rcases cc with q | q | q <;> rw [q] <;> decide
      · have := (hw z).2
        show 0 < V t2
        rw [Int32.not_lt] at this
        exact Int32.lt_of_lt_of_le (by decide) this
    · rw [if_neg cc] at h
      cases h
  by_cases c9 : K t = 29
  · rw [telS_29 c9] at h
    obtain ⟨t1, h1, h⟩ := sB_i h
    obtain ⟨t2, h2, h⟩ := sB_i h
    obtain ⟨t3, h3, h⟩ := sB_i h
    obtain ⟨a1, b1⟩ := goS_ok hK ht (by rw [c9]; decide) h1
    obtain ⟨a2, b2, k2⟩ := mustS_ok (by decide) hK b1 h2
    obtain ⟨a3, b3, k3⟩ := mustS_ok (by decide) hK b2 h3
    cases h
    exact ⟨by dsimp only; omega, b3, ⟨x1, x2, x3, x4, x5, x6⟩, fun z => z⟩
  · rw [telS_no ⟨c0, c1, c2, c3, c4, c5, c9⟩] at h
    cases h
theorem laterS_2 {w : Option tF} {k t k1 t1 : Nat} : laterS (laterS w k t) k1 t1 = laterS w k t := by
  cases w <;> rfl
theorem any_get {f : Nat → Bool} {l : List Nat} : l.any f = true ↔ ∃ i, i < l.length ∧ f (l.getD i 0) = true := by
  constructor
  · intro h
    obtain ⟨y, hy, e⟩ := List.any_eq_true.1 h
    obtain ⟨i, hi, rfl⟩ := List.getElem_of_mem hy
    exact ⟨i, hi, by rw [List.getD_eq_getElem?_getD, List.getElem?_eq_getElem hi]; exact e⟩
  · rintro ⟨i, hi, e⟩
    rw [List.getD_eq_getElem?_getD, List.getElem?_eq_getElem hi] at e
    exact List.any_eq_true.2 ⟨_, List.getElem_mem hi, e⟩
theorem getD_mem {l : List Nat} {i : Nat} (hi : i < l.length) : l.getD i 0 ∈ l := by
  rw [List.getD_eq_getElem?_getD, List.getElem?_eq_getElem hi]
  exact List.getElem_mem hi
theorem getD_l {l : List Nat} {y j : Nat} (h : j < l.length) : (l ++ [y]).getD j 0 = l.getD j 0 := by
  rw [List.getD_eq_getElem?_getD, List.getD_eq_getElem?_getD, List.getElem?_append_left h]
theorem getD_e {l : List Nat} {y : Nat} : (l ++ [y]).getD l.length 0 = y := by
  rw [List.getD_eq_getElem?_getD, List.getElem?_append_right (Nat.le_refl _), Nat.sub_self]
  rfl
end SPEC
theorem zupL_same {M : zL} {a k : Nat} {v : Int64} : zupL M a k v a k = v := by simp [zupL]
theorem zupL_k {M : zL} {a k j : Nat} {v : Int64} (h : j ≠ k) : zupL M a k v a j = M a j := by simp [zupL, h]
theorem zupL_a {M : zL} {a b k j : Nat} {v : Int64} (h : b ≠ a) : zupL M a k v b j = M b j := by simp [zupL, h]
/-! the class's side -/
def wsC (P : Nat → Int32) (w : Option tF) (M : zM) : Prop := match w with
  | none => M 5 8 = 0 ∧ M 5 9 = -1
  | some e => (e.1 = 3 ∨ e.1 = 5) ∧ M 5 8 = nI e.1 ∧ M 5 9 = P e.2
theorem wsC.eq {P : Nat → Int32} {w : Option tF} {M M1 : zM} (h : wsC P w M) (h8 : M1 5 8 = M 5 8) (h9 : M1 5 9 = M 5 9) : wsC P w M1 := by
  cases w with
  | none => exact ⟨h8.trans h.1, h9.trans h.2⟩
  | some e => exact ⟨h.1, h8.trans h.2.1, h9.trans h.2.2⟩
def lawC (M : zM) (a : Nat) (Q : zPr) : Prop := M a 3 = nI (fP Q).length ∧ (fP Q).length ≤ 400 ∧ zAt M (a + 1) (a + 2) 0 (fP Q) ∧ (M a 4 = 0 → noLot Q)
theorem lawC.eq {M M1 : zM} {a : Nat} {Q : zPr} (h : lawC M a Q) (he : ∀ b k, a ≤ b → b ≤ a + 2 → M1 b k = M b k) : lawC M1 a Q := by
  obtain ⟨h1, h2, h3, h4⟩ := h
  exact ⟨by rw [he a 3 (by omega) (by omega)]; exact h1, h2, zAt.eq (fun k => he _ k (by omega) (by omega)) (fun k => he _ k (by omega) (by omega)) _ _ h3, fun w => h4 (by rw [← he a 4 (by omega) (by omega)]; exact w)⟩
def clN (q : Nat) (V : Nat → Int32) (L : zL) (ns : List Nat) (M1 : zM) (L1 : zL) : Prop := M1 q 5 = nI ns.length ∧ ∀ j, j < ns.length → L1 11 j = L 9 (ns.getD j 0) ∧ M1 (q + 9) j = V (ns.getD j 0 + 1)
def clR (q : Nat) (ru : zRu) (w : Option tF) (M1 : zM) : Prop := M1 q 6 = ruS ru ∧ M1 q 7 = ruT ru ∧ (w = none → M1 q 8 = ruH ru ∧ M1 q 9 = ruE ru) ∧ M1 q 10 = ruD ru ∧ lawC M1 (q + 1) (ruP ru) ∧ lawC M1 (q + 5) (ruQ ru)
theorem clN.eq {q : Nat} {V : Nat → Int32} {L : zL} {ns : List Nat} {M1 M2 : zM} {L1 : zL} (h : clN q V L ns M1 L1) (h5 : M2 q 5 = M1 q 5) (h9 : ∀ j, M2 (q + 9) j = M1 (q + 9) j) : clN q V L ns M2 L1 := ⟨by rw [h5]; exact h.1, fun j hj => ⟨(h.2 j hj).1, by rw [h9]; exact (h.2 j hj).2⟩⟩
theorem clR.eq {q : Nat} {ru : zRu} {w : Option tF} {M1 M2 : zM} (h : clR q ru w M1) (h0 : ∀ k, 6 ≤ k → k ≤ 10 → M2 q k = M1 q k) (h1 : ∀ b k, q + 1 ≤ b → b ≤ q + 7 → M2 b k = M1 b k) : clR q ru w M2 := by
  obtain ⟨a1, a2, a3, a4, a5, a6⟩ := h
  exact ⟨by rw [h0 6 (by omega) (by omega)]; exact a1, by rw [h0 7 (by omega) (by omega)]; exact a2, fun z => by rw [h0 8 (by omega) (by omega), h0 9 (by omega) (by omega)]; exact a3 z, by rw [h0 10 (by omega) (by omega)]; exact a4, a5.eq (fun b k q1 q2 => h1 b k (by omega) (by omega)), a6.eq (fun b k q1 q2 => h1 b k (by omega) (by omega))⟩
theorem clR.w {q : Nat} {ru : zRu} {w w1 : Option tF} {M1 : zM} (h : clR q ru w M1) (hw : w1 = none → w = none) : clR q ru w1 M1 := ⟨h.1, h.2.1, fun z => h.2.2.1 (hw z), h.2.2.2⟩
def paA (q : Nat) : Nat → Nat → Prop := fun b _ => b = 5 ∨ b = 12 ∨ (q ≤ b ∧ b ≤ q + 9)
def paS (q : Nat) (K V P : Nat → Int32) (c : Nat) (M : zM) (L : zL) (t : Nat) (x : zTx) (M1 : zM) (L1 : zL) : Prop := AL t M1 ∧ t ≤ c ∧ xOk K c x ∧ clN q V L x.1 M1 L1 ∧ clR q x.2.1 x.2.2 M1 ∧ wsC P x.2.2 M1 ∧ zag (paA q) M M1 ∧ ∀ b j, b ≠ 11 → L1 b j = L b j
def paD (q : Nat) (P : Nat → Int32) (M : zM) (L : zL) (f : tF) (M1 : zM) (L1 : zL) : Prop := FC P f M1 ∧ zag (paA q) M M1 ∧ ∀ b j, b ≠ 11 → L1 b j = L b j
def telO (q : Nat) (K V P : Nat → Int32) (c : Nat) (M : zM) (L : zL) (res : tF ⊕ (Nat × zTx)) (M1 : zM) (L1 : zL) : Prop := (∃ f, res = .inl f ∧ paD q P M L f M1 L1) ∨ (∃ r, res = .inr r ∧ paS q K V P c M L r.1 r.2 M1 L1)
theorem tkC.eqL {M M1 : zM} {L L1 : zL} {K V P : Nat → Int32} {c : Nat} (h : tkC M L K V P c) (h7 : ∀ i, M1 7 i = M 7 i) (h8 : ∀ i, M1 8 i = M 8 i) (h9 : ∀ i, L1 9 i = L 9 i) : tkC M1 L1 K V P c := by
  refine ⟨h.1, fun i hi => ?_⟩
  rw [h7, h8, h9]
  exact h.2 i hi
section CLS
variable {R : zR} {M M1 : zM} {L L1 : zL} {K V P : Nat → Int32} {c t q : Nat} {f : tF} {x : zTx}
theorem X5_later (hp : zRp R) {w : Option tF} (hw : wsC P w M1) (ht : t < 402) (h8 : M1 8 t = P t) {k : Nat} (hk : k = 3 ∨ k = 5) : zT (f_X5_failLater R M1 5 (nI t) (nI k)) (fun M2 => wsC P (laterS w k t) M2 ∧ zag (fun b j => b = 5 ∧ (j = 8 ∨ j = 9)) M1 M2) := by
  unfold f_X5_failLater
  rw [hp.2.1]
  cases w with
  | none =>
    refine zT_if1 hw.1 (zT_lt (zT_bd (zT_eq (X9_place hp ht) (zT_lt (zT_some ⟨⟨hk, ?_, ?_⟩, (zag.rf.up (by omega)).up (by omega)⟩)))))
    · rw [zup_k (by omega), zup_same]
    · rw [zup_same, zup_a (by omega)]
      exact h8
  | some e =>
    refine zT_if0 ?_ (zT_some ⟨hw, zag.rf⟩)
    rw [hw.2.1]
    rcases hw.1 with z | z <;> rw [z] <;> decide
theorem paS.tk (hq : 12 < q) (hk : tkC M L K V P c) (h : paS q K V P c M L t x M1 L1) : tkC M1 L1 K V P c := by
  obtain ⟨_, _, _, _, _, _, h7, h8⟩ := h
  exact hk.eqL (fun j => h7 7 j (by unfold paA; omega)) (fun j => h7 8 j (by unfold paA; omega)) (fun j => h8 9 j (by omega))
theorem paS.take (hp : zRp R) (hq : 12 < q) (hk : tkC M L K V P c) (hK : endS K c) (h : paS q K V P c M L t x M1 L1) {d y : Int32} (hd : d ∈ kdL) (hx : ckF d = y) (h0 : d ≠ 0) : zT (f_X5_take R M1 5 y) (fun p => (∃ f, mustS K d t = .inl f ∧ p.1 = 0 ∧ paD q P M L f p.2 L1) ∨ (∃ t1, mustS K d t = .inr t1 ∧ p.1 = 1 ∧ paS q K V P c M L t1 x p.2 L1)) := by
  have hk1 := h.tk hq hk
  obtain ⟨h1, h2, h3, h4, h5, h6, h7, h8⟩ := h
  refine zT_w (X5_take hp hk1 h1 h2 hd hx) ?_
  rintro ⟨r, M2⟩ ⟨hm, g⟩
  have gg : zag (paA q) M M2 := h7.tr (g.mo (fun b j w => Or.inl w.1))
  have fO : ∀ b j, b ≠ 5 → M2 b j = M1 b j := fun b j hb => g b j (by unfold tkA; omega)
  cases hh : mustS K d t with
  | inl f =>
    rw [hh] at hm
    exact Or.inl ⟨f, rfl, hm.1, hm.2, gg, h8⟩
  | inr t1 =>
    rw [hh] at hm
    obtain ⟨e1, e2, _⟩ := mustS_ok h0 hK h2 hh
    exact Or.inr ⟨t1, rfl, hm.1, hm.2, e2, h3, h4.eq (fO _ _ (by omega)) (fun j => fO _ j (by omega)), h5.eq (fun k _ _ => fO _ _ (by omega)) (fun b k q1 _ => fO b k (by omega)), h6.eq (g 5 8 (by unfold tkA; omega)) (g 5 9 (by unfold tkA; omega)), gg, h8⟩
theorem paD.take (h : paD q P M L f M1 L1) (y : Int32) : zT (f_X5_take R M1 5 y) (fun p => p.1 = 0 ∧ paD q P M L f p.2 L1) := zT_eq (X5_dead h.1.ne y) ⟨rfl, h⟩
theorem paS.fail (hp : zRp R) (hq : 12 < q) (hk : tkC M L K V P c) (h : paS q K V P c M L t x M1 L1) {k : Nat} (hk2 : k = 1 ∨ k = 2) : zT (f_X5_failAt R M1 5 (M1 5 3) (nI k)) (fun M2 => paD q P M L (k, t) M2 L1) := by
  have hk1 := h.tk hq hk
  have c400 := hk.1
  obtain ⟨h1, h2, h3, h4, h5, h6, h7, h8⟩ := h
  rw [h1.1]
  refine zT_w (X5_failAt hp (by omega) (hk1.2 t h2).2.2.1 h1.2 hk2) ?_
  rintro M2 ⟨a1, g⟩
  exact ⟨a1, h7.tr (g.mo (fun b j w => Or.inl w.1)), h8⟩
/-- lines of one word -/
theorem X5_house (hp : zRp R) (hq : 12 < q) (hR : R q 2 = q + 9) (hk : tkC M L K V P c) (hK : endS K c) (hV : valS K V c) {E : Nat → Nat → Bool} (hE : ∀ i j, i ≤ c → j ≤ c → K i = 1 → K j = 1 → (E i j = true ↔ L 9 i = L 9 j)) (h : paS q K V P c M L t x M1 L1) (c20 : K t = 20) : zT (f_X5_tellHouse R M1 L1 5 q) (fun p => telO q K V P c M L (telS K V E t x) p.1 p.2) := by
  have c400 := hk.1
  obtain ⟨h1, h2, h3, h4, h5, h6, h7, h8⟩ := id h
  have x10 := h3.1
  unfold f_X5_tellHouse
  obtain ⟨res, hr⟩ : ∃ res, telS K V E t x = res := ⟨_, rfl⟩
  rw [hr]
  have hr0 := hr
  rw [telS_20 c20] at hr
  by_cases c10 : x.1.length = 10
  · rw [if_pos c10] at hr
    refine zT_if0 (by rw [h4.1, c10]; decide) (zT_bd (zT_w (h.fail hp hq hk (k := 2) (Or.inr rfl)) fun M2 q => zT_some (Or.inl ⟨_, hr.symm, q⟩)))
  rw [if_neg c10] at hr
  refine zT_if1 (by rw [h4.1, nI_lit 10]; exact nI_lt (by omega) (by omega)) ?_
  have m20 : mustS K 20 t = goS t := if_pos c20
  refine zT_bd2 (zT_w (h.take hp hq hk hK (d := 20) (by decide) (by decide) (by decide)) ?_)
  rw [m20]
  rintro ⟨r, M2⟩ (⟨f, e1, er, hd⟩ | ⟨t1, e1, er, hs⟩)
  · exact zT_if1 er (zT_some (Or.inl ⟨f, by rw [← hr, sB_l e1], hd⟩))
  rw [sB_r e1] at hr
  refine zT_if0 (by rw [er]; decide) (zT_bd2 (zT_w (hs.take hp hq hk hK (d := 1) (by decide) (by decide) (by decide)) ?_))
  rintro ⟨r, M3⟩ (⟨f, e2, er, hd⟩ | ⟨t2, e2, er, hs⟩)
  · exact zT_if1 er (zT_some (Or.inl ⟨f, by rw [← hr, sB_l e2], hd⟩))
  rw [sB_r e2] at hr
  refine zT_if0 (by rw [er]; decide) (zT_bd2 (zT_w (hs.take hp hq hk hK (d := 2) (by decide) (by decide) (by decide)) ?_))
  rintro ⟨r, M4⟩ (⟨f, e3, er, hd⟩ | ⟨t3, e3, er, hs⟩)
  · exact zT_if1 er (zT_some (Or.inl ⟨f, by rw [← hr, sB_l e3], hd⟩))
  rw [sB_r e3] at hr
  refine zT_if0 (by rw [er]; decide) (zT_bd2 (zT_w (hs.take hp hq hk hK (d := 4) (by decide) (by decide) (by decide)) ?_))
  rintro ⟨r, M5⟩ (⟨f, e4, er, hd⟩ | ⟨t4, e4, er, hs5⟩)
  · exact zT_if1 er (zT_some (Or.inl ⟨f, by rw [← hr, sB_l e4], hd⟩))
  rw [sB_r e4] at hr
  refine zT_if0 (by rw [er]; decide) ?_
  obtain ⟨a1, b1⟩ := goS_ok hK h2 (by rw [c20]; decide) e1
  obtain ⟨a2, b2, k2⟩ := mustS_ok (by decide) hK b1 e2
  obtain ⟨a3, b3, k3⟩ := mustS_ok (by decide) hK b2 e3
  obtain ⟨a4, b4, k4⟩ := mustS_ok (by decide) hK b3 e4
  subst a1
  obtain ⟨_, _, xo⟩ := telS_ok hV hK h2 h3 (hr0.trans hr.symm)
  have hk5 := hs5.tk hq hk
  obtain ⟨y1, y2, y3, y4, y5, y6, y7, y8⟩ := hs5
  dsimp only at y1 y4 y5 y6 y7 ⊢
  rw [h1.1, nI_1, hp.2.1, hp.2.2.1]
  have e2' : nI t + 2 = nI (t + 2) := nI_add t 2
  rw [e2']
  have L9 : ∀ j, L1 9 j = L 9 j := fun j => y8 9 j (by omega)
  refine zT_bd (zT_w (Q := fun e26 => wsC P (if x.1.any (fun i => E i (t + 1)) = true then laterS x.2.2 3 (t + 1) else x.2.2) e26 ∧ zag (fun b j => b = 5 ∧ (j = 8 ∨ j = 9)) M5 e26) ?_ ?_)
  · refine zT_for x.1.length (fun k v => v.1 = nI k ∧ zag (fun b j => b = 5 ∧ (j = 8 ∨ j = 9)) M5 v.2 ∧ (((∃ i, i < k ∧ E (x.1.getD i 0) (t + 1) = true) ∧ wsC P (laterS x.2.2 3 (t + 1)) v.2) ∨ ((∀ i, i < k → ¬ E (x.1.getD i 0) (t + 1) = true) ∧ wsC P x.2.2 v.2))) ⟨rfl, zag.rf, Or.inr ⟨fun i hi => absurd hi (by omega), y6⟩⟩ (by omega) ?_ ?_
    · rintro k ⟨z, M6⟩ hk6 ⟨rfl, g6, hw⟩
      simp only at g6 hw ⊢
      unfold b_X5_tellHouse_71
      have n5 : M6 q 5 = nI x.1.length := by rw [g6 q 5 (by omega)]; exact y4.1
      rw [n5, hp.2.1, hp.2.2.1]
      refine zT_if0 (nI_ge hk6 (by omega)) (zT_if0 (by rw [nI_lit 10]; exact nI_ge (by omega) (by omega)) (zT_ck (zin_nI (by omega) (by omega)) (zT_bd (zT_eq (X9_value hp (by omega)) ?_))))
      rw [ztn_nI (by omega), L9, (y4.2 k hk6).1]
      obtain ⟨m1, m2, _⟩ := h3.2.1 _ (getD_mem hk6)
      have hEE := hE (x.1.getD k 0) (t + 1) (by omega) b1 m2 k2
      by_cases ce : E (x.1.getD k 0) (t + 1) = true
      · refine zT_if1 ((lg_cmp_eq _ _).2 (hEE.1 ce)) ?_
        have p8 : M6 8 (t + 1) = P (t + 1) := by rw [g6 8 _ (by omega)]; exact (hk5.2 _ b1).2.2.1
        have key : ∀ (w : Option tF), laterS w 3 (t + 1) = laterS x.2.2 3 (t + 1) → wsC P w M6 → zT (zbd (f_X5_failLater R M6 5 (nI (t + 1)) 3) fun M24 => some (Sum.inl (nI k + 1, M24))) (Sum.elim (fun v => v.1 = nI (k + 1) ∧ zag (fun b j => b = 5 ∧ (j = 8 ∨ j = 9)) M5 v.2 ∧ (((∃ i, i < k + 1 ∧ E (x.1.getD i 0) (t + 1) = true) ∧ wsC P (laterS x.2.2 3 (t + 1)) v.2) ∨ ((∀ i, i < k + 1 → ¬ E (x.1.getD i 0) (t + 1) = true) ∧ wsC P x.2.2 v.2))) (fun e26 => wsC P (if x.1.any (fun i => E i (t + 1)) = true then laterS x.2.2 3 (t + 1) else x.2.2) e26 ∧ zag (fun b j => b = 5 ∧ (j = 8 ∨ j = 9)) M5 e26)) := fun w ew hw => by
          refine zT_bd (zT_w (X5_later hp (k := 3) hw (by omega) p8 (Or.inl rfl)) ?_)
          rintro M7 ⟨w7, g7⟩
          rw [ew] at w7
          exact zT_some ⟨nI_1 k, g6.tr g7, Or.inl ⟨⟨k, by omega, ce⟩, w7⟩⟩
        rcases hw with ⟨_, hw⟩ | ⟨_, hw⟩
        · exact key _ laterS_2 hw
        · exact key _ rfl hw
      · refine zT_if0 (fun z => ce (hEE.2 ((lg_cmp_eq _ _).1 z))) (zT_some ⟨nI_1 k, g6, ?_⟩)
        rcases hw with ⟨⟨i, hi, e⟩, hw⟩ | ⟨ho, hw⟩
        · exact Or.inl ⟨⟨i, by omega, e⟩, hw⟩
        · refine Or.inr ⟨fun i hi => ?_, hw⟩
          by_cases ik : i = k
          · rw [ik]
            exact ce
          · exact ho i (by omega)
    · rintro ⟨z, M6⟩ ⟨rfl, g6, hw⟩
      simp only at g6 hw ⊢
      unfold b_X5_tellHouse_71
      refine zT_if1 (by rw [g6 q 5 (by omega), y4.1]; exact Int32.le_refl _) (zT_some ⟨?_, g6⟩)
      rcases hw with ⟨hw1, hw⟩ | ⟨ho, hw⟩
      · rw [if_pos (any_get.2 hw1)]
        exact hw
      · rw [if_neg (fun z => by obtain ⟨i, hi, e⟩ := any_get.1 z; exact ho i hi e)]
        exact hw
  rintro M6 ⟨w6, g6⟩
  have n5 : M6 q 5 = nI x.1.length := by rw [g6 q 5 (by omega)]; exact y4.1
  rw [n5]
  refine zT_if0 (nI_pos (by omega)) (zT_if0 (by rw [nI_lit 10]; exact nI_ge (by omega) (by omega)) (zT_bd (zT_eq (X9_value hp (by omega)) (zT_ck (zin_nI (by omega) (by omega)) (zT_lt ?_)))))
  unfold j_X5_tellHouse_157 f_X7_addHouse
  rw [hp.2.1, ztn_nI (by omega)]
  refine zT_bd (zT_eq (X9_value hp (by omega)) (zT_bd ?_))
  rw [n5, hR]
  refine zT_if0 (nI_pos (by omega)) (zT_if0 (by rw [nI_lit 10]; exact nI_ge (by omega) (by omega)) (zT_lt (zT_ck (zin_nI (by omega) (by omega)) (zT_lt (zT_some (zT_some (Or.inr ⟨_, hr.symm, ?_⟩)))))))
  rw [ztn_nI (by omega), nI_1, zupL_a (by omega), L9, L9]
  have fO : ∀ b j, b ≠ 5 → b ≠ q + 9 → ¬ (b = q ∧ j = 5) → zup (zup M6 q 5 (nI (x.1.length + 1))) (q + 9) x.1.length (L 9 (t + 2)).toInt32 b j = M5 b j := fun b j q1 q2 q3 => by
    rw [zup_a (by omega)]
    by_cases e : b = q
    · subst e
      rw [zup_k (by omega), g6 b j (by omega)]
    · rw [zup_a e, g6 b j (by omega)]
  have f5 : ∀ j, zup (zup M6 q 5 (nI (x.1.length + 1))) (q + 9) x.1.length (L 9 (t + 2)).toInt32 5 j = M6 5 j := fun j => by
    rw [zup_a (by omega), zup_a (by omega)]
  refine ⟨⟨?_, ?_⟩, y2, xo.1, ⟨?_, fun j hj => ?_⟩, (y5.eq (fun k _ _ => fO _ _ (by omega) (by omega) (by omega)) (fun b k q1 q2 => fO _ _ (by omega) (by omega) (by omega))).w xo.2, w6.eq (f5 8) (f5 9), ((y7.tr (g6.mo (fun b j w => Or.inl w.1))).up (Or.inr (Or.inr ⟨by omega, by omega⟩))).up (Or.inr (Or.inr ⟨by omega, by omega⟩)), fun b j hb => ?_⟩
  · dsimp only
    rw [f5, g6 5 3 (by omega)]
    exact y1.1
  · dsimp only
    rw [f5, g6 5 6 (by omega)]
    exact y1.2
  · dsimp only
    rw [zup_a (by omega), zup_same, List.length_append]
    rfl
  · rw [List.length_append, List.length_singleton] at hj
    dsimp only
    by_cases e : j = x.1.length
    · subst e
      rw [zupL_same, zup_same, getD_e]
      refine ⟨rfl, ?_⟩
      have hv := (hk.2 (t + 2) (by omega)).2.2.2 (by rw [← a2]; exact k3)
      exact hv
    · rw [zupL_k e, zup_k e, zup_a (by omega), getD_l (by omega), g6 (q + 9) j (by omega)]
      exact y4.2 j (by omega)
  · dsimp only
    rw [zupL_a hb]
    exact y8 b j hb
end CLS

/-! READ, on the class's side: tokens, steps, signs that wait */ -/
theorem ck_var : kdL.all (fun a => (decide (¬ ckF a < 113 ∧ ¬ 119 < ckF a) == decide (33 ≤ a ∧ a ≤ 39)) && (!(decide (33 ≤ a ∧ a ≤ 39)) || decide (ckF a - 113 = a - 33))) = true := by decide +kernel
theorem ck_vr {a : Int32} (ha : a ∈ kdL) : ((¬ ckF a < 113 ∧ ¬ 119 < ckF a) ↔ (33 ≤ a ∧ a ≤ 39)) ∧ ((33 ≤ a ∧ a ≤ 39) → ckF a - 113 = a - 33) := by
  have h := List.all_eq_true.1 ck_var a ha
  simp only [Bool.and_eq_true, beq_iff_eq, decide_eq_decide, Bool.or_eq_true, Bool.not_eq_true', decide_eq_false_iff_not, decide_eq_true_eq] at h
  refine ⟨h.1, fun q => ?_⟩
  rcases h.2 with c | c
  · exact absurd q c
  · exact c
theorem ck_bond : kdL.all (fun a => decide (f_X5_bond (ckF a) = some (nI (bondR a)))) = true := by decide +kernel
theorem X5_bond {a : Int32} (ha : a ∈ kdL) : f_X5_bond (ckF a) = some (nI (bondR a)) := by
  have h := List.all_eq_true.1 ck_bond a ha
  simpa using h
/-- the class's tokens up to c -/
def tkC (M : zM) (L : zL) (K V P : Nat → Int32) (c : Nat) : Prop := c ≤ 400 ∧ ∀ i, i ≤ c → K i ∈ kdL ∧ M 7 i = ckF (K i) ∧ M 8 i = P i ∧ (K i = 2 → (L 9 i).toInt32 = V i)
theorem tkC.eq {M M1 : zM} {L : zL} {K V P : Nat → Int32} {c : Nat} (h : tkC M L K V P c) (h7 : ∀ i, M1 7 i = M 7 i) (h8 : ∀ i, M1 8 i = M 8 i) : tkC M1 L K V P c := by
  refine ⟨h.1, fun i hi => ?_⟩
  rw [h7, h8]
  exact h.2 i hi
def FC (P : Nat → Int32) (f : tF) (M : zM) : Prop := (f.1 = 1 ∨ f.1 = 2) ∧ M 5 6 = nI f.1 ∧ M 5 7 = P f.2
def AL (t : Nat) (M : zM) : Prop := M 5 3 = nI t ∧ M 5 6 = 0
def oC {α : Type} (P : Nat → Int32) (x : tF ⊕ α) (ok : α → zM → Prop) (M : zM) : Prop := match x with
  | .inl f => FC P f M
  | .inr a => ok a M
theorem FC.ne {P : Nat → Int32} {f : tF} {M : zM} (h : FC P f M) : M 5 6 ≠ 0 := by
  rw [h.2.1]
  rcases h.1 with e | e <;> rw [e] <;> decide
theorem FC.eq {P : Nat → Int32} {f : tF} {M M1 : zM} (h : FC P f M) (e6 : M1 5 6 = M 5 6) (e7 : M1 5 7 = M 5 7) : FC P f M1 := ⟨h.1, by rw [e6]; exact h.2.1, by rw [e7]; exact h.2.2⟩
theorem X9_kind {R : zR} {M : zM} (hp : zRp R) {t : Nat} (ht : t < 402) : f_X9_kindAt R M 6 (nI t) = some (M 7 t) := by
  obtain ⟨_, _, _, _, k7, _⟩ := hp
  unfold f_X9_kindAt zck
  rw [if_neg (nI_pos (by omega)), nI_lit 402, if_neg (nI_ge ht (by omega)), if_pos (zin_nI ht (by omega)), k7, ztn_nI (by omega)]
theorem X9_place {R : zR} {M : zM} (hp : zRp R) {t : Nat} (ht : t < 402) : f_X9_placeOf R M 6 (nI t) = some (M 8 t) := by
  obtain ⟨_, _, _, _, _, k8, _⟩ := hp
  unfold f_X9_placeOf zck
  rw [if_neg (nI_pos (by omega)), nI_lit 402, if_neg (nI_ge ht (by omega)), if_pos (zin_nI ht (by omega)), k8, ztn_nI (by omega)]
theorem X9_value {R : zR} {L : zL} (hp : zRp R) {t : Nat} (ht : t < 402) : f_X9_valueOf R L 6 (nI t) = some (L 9 t) := by
  obtain ⟨_, _, _, _, _, _, k9, _⟩ := hp
  unfold f_X9_valueOf zck
  rw [if_neg (nI_pos (by omega)), nI_lit 402, if_neg (nI_ge ht (by omega)), if_pos (zin_nI ht (by omega)), k9, ztn_nI (by omega)]
def tkA : Nat → Nat → Prop := fun b k => b = 5 ∧ (k = 3 ∨ k = 6 ∨ k = 7)
theorem X5_dead {R : zR} {M : zM} (h : M 5 6 ≠ 0) (x : Int32) : f_X5_take R M 5 x = some (0, M) := by
  unfold f_X5_take
  rw [if_neg h]
theorem X5_deadF {R : zR} {M : zM} (h : M 5 6 ≠ 0) (x y : Int32) : f_X5_failAt R M 5 x y = some M := by
  unfold f_X5_failAt
  rw [if_neg h]
section CLS
variable {R : zR} {M : zM} {L : zL} {K V P : Nat → Int32} {c t : Nat}
theorem X5_failAt (hp : zRp R) (ht : t < 402) (h8 : M 8 t = P t) (h6 : M 5 6 = 0) {k : Nat} (hk : k = 1 ∨ k = 2) : zT (f_X5_failAt R M 5 (nI t) (nI k)) (fun M1 => FC P (k, t) M1 ∧ zag (fun b j => b = 5 ∧ (j = 6 ∨ j = 7)) M M1) := by
  unfold f_X5_failAt
  rw [hp.2.1]
  refine zT_if1 h6 (zT_lt (zT_bd (zT_eq (X9_place hp ht) (zT_lt (zT_some ⟨⟨hk, ?_, ?_⟩, (zag.rf.up (by omega)).up (by omega)⟩)))))
  · rw [zup_k (by omega), zup_same]
  · rw [zup_same, zup_a (by omega)]
    exact h8
theorem X5_take (hp : zRp R) (hk : tkC M L K V P c) (ha : AL t M) (ht : t ≤ c) {d x : Int32} (hd : d ∈ kdL) (hx : ckF d = x) : zT (f_X5_take R M 5 x) (fun p => (match mustS K d t with | .inl f => p.1 = 0 ∧ FC P f p.2 | .inr t1 => p.1 = 1 ∧ AL t1 p.2) ∧ zag tkA M p.2) := by
  obtain ⟨hc, hk⟩ := hk
  obtain ⟨k1, k7, k8, _⟩ := hk t ht
  obtain ⟨a3, a6⟩ := ha
  have bad : ∀ (k : Nat) (s : Int32), (k = 1 ∧ s = 1 ∨ k = 2 ∧ s = 2) → zT (j_X5_take_66 R M 5 5 s) (fun p => (p.1 = 0 ∧ FC P (k, t) p.2) ∧ zag tkA M p.2) := fun k s hks => by
    unfold j_X5_take_66
    rw [hp.2.1]
    have e3 : zup M 5 6 s 5 3 = nI t := by rw [zup_k (by omega)]; exact a3
    refine zT_lt (zT_bd ?_)
    rw [e3]
    refine zT_eq (X9_place hp (by omega)) (zT_lt (zT_some ⟨⟨rfl, by omega, ?_, ?_⟩, (zag.rf.up ⟨rfl, by omega⟩).up ⟨rfl, by omega⟩⟩))
    · dsimp only
      rw [zup_k (by omega), zup_same]
      rcases hks with ⟨rfl, rfl⟩ | ⟨rfl, rfl⟩ <;> rfl
    · dsimp only
      rw [zup_same, zup_a (by omega)]
      exact k8
  unfold f_X5_take j_X5_take_29 j_X5_take_56 mustS goS
  rw [hp.2.1, a3]
  refine zT_if1 a6 (zT_bd (zT_eq (X9_kind hp (by omega)) ?_))
  rw [k7]
  by_cases q : K t = d
  · refine zT_if1 (by rw [q]; exact hx) (zT_if0 (by decide) ?_)
    rw [if_pos q]
    by_cases q4 : t = 400
    · rw [if_pos q4]
      exact zT_if1 (by rw [q4]; decide) (zT_if0 (by decide) (bad 2 2 (Or.inr ⟨rfl, rfl⟩)))
    · rw [if_neg q4]
      refine zT_if0 (by rw [nI_lit 400]; exact nI_ge (by omega) (by omega)) (zT_lt (zT_some ⟨⟨rfl, ?_, ?_⟩, zag.rf.up ⟨rfl, by omega⟩⟩))
      · dsimp only
        rw [zup_same, nI_1]
      · dsimp only
        rw [zup_k (by omega)]
        exact a6
  · rw [if_neg q]
    exact zT_if0 (fun z => q ((ck_is d k1 hd hx).1 z)) (zT_if1 rfl (zT_if1 rfl (bad 1 1 (Or.inl ⟨rfl, rfl⟩))))
end CLS
/-! steps added -/
def adA (a : Nat) : Nat → Nat → Prop := fun b k => b = a + 1 ∨ b = a + 2 ∨ (b = a ∧ (k = 3 ∨ k = 4))
def zLr (R : zR) (a : Nat) : Prop := R a 0 = a + 1 ∧ R a 1 = a + 2
theorem X3_addT {R : zR} {M : zM} {a : Nat} (hR : zLr R a) (k x : Int32) : zT (f_X3_add R M a k x) (fun M1 => zag (adA a) M M1) := by
  unfold f_X3_add
  rw [hR.1, hR.2]
  refine zT_if (fun _ => zT_some zag.rf) (fun h0 => ?_)
  obtain ⟨j, hj, ej⟩ := nI_of h0
  rw [ej]
  refine zT_if (fun h4 => ?_) (fun _ => zT_some zag.rf)
  have hj4 : j < 400 := by
    rw [nI_lit 400, nI_ltI (by omega) (by omega)] at h4
    exact h4
  have c1 : ∀ y, zup M (a + 1) (ztn (nI j)) y a 3 = nI j := fun y => by rw [zup_a (by omega)]; exact ej
  have g : zag (adA a) M (zup (zup (zup M (a + 1) (ztn (nI j)) k) (a + 2) (ztn (nI j)) x) a 3 (zup (zup M (a + 1) (ztn (nI j)) k) (a + 2) (ztn (nI j)) x a 3 + 1)) := ((zag.rf.up (Or.inl rfl)).up (Or.inr (Or.inl rfl))).up (Or.inr (Or.inr ⟨rfl, Or.inl rfl⟩))
  refine zT_ck (zin_nI hj4 (by omega)) (zT_lt ?_)
  rw [c1]
  refine zT_ck (zin_nI hj4 (by omega)) (zT_lt (zT_lt ?_))
  exact zT_if (fun _ => zT_if (fun _ => zT_lt (zT_some (g.up (Or.inr (Or.inr ⟨rfl, Or.inr rfl⟩))))) (fun _ => zT_some g)) (fun _ => zT_some g)
theorem X3_add {R : zR} {M : zM} {a s : Nat} (hR : zLr R a) (hs : M a 3 = nI s) (h4 : s < 400) (k x : Int32) : zT (f_X3_add R M a k x) (fun M1 => M1 a 3 = nI (s + 1) ∧ M1 (a + 1) s = k ∧ M1 (a + 2) s = x ∧ (∀ i, i ≠ s → M1 (a + 1) i = M (a + 1) i ∧ M1 (a + 2) i = M (a + 2) i) ∧ (M1 a 4 = 0 → M a 4 = 0 ∧ ¬ (k = 2 ∧ x = 5)) ∧ zag (adA a) M M1) := by
  unfold f_X3_add
  rw [hR.1, hR.2, hs]
  refine zT_if0 (nI_pos (by omega)) (zT_if1 (by rw [nI_lit 400]; exact nI_lt h4 (by omega)) (zT_ck (zin_nI h4 (by omega)) (zT_lt ?_)))
  have c1 : ∀ y, zup M (a + 1) (ztn (nI s)) y a 3 = nI s := fun y => by rw [zup_a (by omega)]; exact hs
  rw [c1]
  refine zT_ck (zin_nI h4 (by omega)) (zT_lt (zT_lt ?_))
  rw [ztn_nI (by omega)]
  have c2 : zup (zup M (a + 1) s k) (a + 2) s x a 3 = nI s := by rw [zup_a (by omega), zup_a (by omega)]; exact hs
  rw [c2, nI_1]
  have g : zag (adA a) M (zup (zup (zup M (a + 1) s k) (a + 2) s x) a 3 (nI (s + 1))) := ((zag.rf.up (Or.inl rfl)).up (Or.inr (Or.inl rfl))).up (Or.inr (Or.inr ⟨rfl, Or.inl rfl⟩))
  have v1 : zup (zup (zup M (a + 1) s k) (a + 2) s x) a 3 (nI (s + 1)) a 3 = nI (s + 1) := zup_same
  have v2 : zup (zup (zup M (a + 1) s k) (a + 2) s x) a 3 (nI (s + 1)) (a + 1) s = k := by rw [zup_a (by omega), zup_a (by omega), zup_same]
  have v3 : zup (zup (zup M (a + 1) s k) (a + 2) s x) a 3 (nI (s + 1)) (a + 2) s = x := by rw [zup_a (by omega), zup_same]
  have v4 : ∀ i, i ≠ s → zup (zup (zup M (a + 1) s k) (a + 2) s x) a 3 (nI (s + 1)) (a + 1) i = M (a + 1) i ∧ zup (zup (zup M (a + 1) s k) (a + 2) s x) a 3 (nI (s + 1)) (a + 2) i = M (a + 2) i := fun i hi => by
    refine ⟨?_, ?_⟩
    · rw [zup_a (by omega), zup_a (by omega), zup_k hi]
    · rw [zup_a (by omega), zup_k hi, zup_a (by omega)]
  have v5 : zup (zup (zup M (a + 1) s k) (a + 2) s x) a 3 (nI (s + 1)) a 4 = M a 4 := by rw [zup_k (by omega), zup_a (by omega), zup_a (by omega)]
  generalize zup (zup (zup M (a + 1) s k) (a + 2) s x) a 3 (nI (s + 1)) = M1 at g v1 v2 v3 v4 v5 ⊢
  refine zT_if (fun q => zT_if (fun q2 => zT_lt (zT_some ⟨?_, ?_, ?_, fun i hi => ?_, fun z => ?_, g.up (Or.inr (Or.inr ⟨rfl, Or.inr rfl⟩))⟩)) (fun q2 => zT_some ⟨v1, v2, v3, v4, fun z => ⟨by rw [← v5]; exact z, fun w => q2 w.2⟩, g⟩)) (fun q => zT_some ⟨v1, v2, v3, v4, fun z => ⟨by rw [← v5]; exact z, fun w => q w.1⟩, g⟩)
  · rw [zup_k (by omega)]; exact v1
  · rw [zup_a (by omega)]; exact v2
  · rw [zup_a (by omega)]; exact v3
  · rw [zup_a (by omega), zup_a (by omega)]; exact v4 i hi
  · rw [zup_same] at z
    exact absurd z (by decide)
theorem zAt_app {M : zM} {A B : Nat} : ∀ (c d : List (Int32 × Int32 × Nat)) (p : Nat), zAt M A B p c → zAt M A B (p + c.length) d → zAt M A B p (c ++ d)
  | [], d, p, _, h => h
  | (k, x, n) :: c, d, p, h1, h2 => by
    obtain ⟨a, b, e, f⟩ := h1
    rw [List.length_cons] at h2
    refine ⟨a, b, fun q => ?_, zAt_app c d (p + 1) f (by rw [show p + 1 + c.length = p + (c.length + 1) by omega]; exact h2)⟩
    obtain ⟨e1, e2⟩ := e q
    exact ⟨by show n ≤ (c ++ d).length; rw [List.length_append]; omega, e2⟩
theorem zAt.eqr {M M1 : zM} {A B : Nat} : ∀ (c : List (Int32 × Int32 × Nat)) (p : Nat), (∀ i, p ≤ i → i < p + c.length → M1 A i = M A i ∧ M1 B i = M B i) → zAt M A B p c → zAt M1 A B p c
  | [], _, _, _ => trivial
  | (k, x, n) :: c, p, he, h => by
    rw [List.length_cons] at he
    obtain ⟨a, b, e, f⟩ := h
    obtain ⟨h1, h2⟩ := he p (by omega) (by omega)
    exact ⟨by rw [h1]; exact a, fun q => by rw [h2]; exact b q, fun q => by rw [h2]; exact e q, zAt.eqr c (p + 1) (fun i q1 q2 => he i (by omega) (by omega)) f⟩
theorem fE_app (e f : zEx) : fE (e ++ f) = fE e ++ fE f := by simp [fE]
theorem fE_len (e : zEx) : (fE e).length = e.length := by simp [fE]
/-- what the cells below stay -/
def blw (a s : Nat) (M M1 : zM) : Prop := ∀ i, i < s → M1 (a + 1) i = M (a + 1) i ∧ M1 (a + 2) i = M (a + 2) i
theorem blw.tr {a s s1 : Nat} {M M1 M2 : zM} (h : blw a s M M1) (h2 : blw a s1 M1 M2) (hs : s ≤ s1) : blw a s M M2 := fun i hi => ⟨((h2 i (by omega)).1).trans (h i hi).1, ((h2 i (by omega)).2).trans (h i hi).2⟩
/-- one step of an E -/
theorem X3_addE {R : zR} {M : zM} {a s0 : Nat} {out : zEx} (hR : zLr R a) (hs : M a 3 = nI (s0 + out.length)) (h4 : s0 + out.length < 400) (hz : zAt M (a + 1) (a + 2) s0 (fE out)) {k x y : Int32} (hk : stepOf k = y) (hk3 : y ≠ 3) : zT (f_X3_add R M a y x) (fun M1 => M1 a 3 = nI (s0 + (out ++ [(k, x)]).length) ∧ zAt M1 (a + 1) (a + 2) s0 (fE (out ++ [(k, x)])) ∧ blw a (s0 + out.length) M M1 ∧ (M1 a 4 = 0 → M a 4 = 0 ∧ ¬ (y = 2 ∧ x = 5)) ∧ zag (adA a) M M1) := by
  refine zT_w (X3_add hR hs h4 y x) ?_
  rintro M1 ⟨a1, a2, a3, a4, a5, a6⟩
  refine ⟨by rw [a1, List.length_append]; rfl, ?_, fun i hi => a4 i (by omega), a5, a6⟩
  rw [fE_app]
  refine zAt_app _ _ _ (zAt.eqr _ _ (fun i q1 q2 => a4 i (by rw [fE_len] at q2; omega)) hz) ?_
  rw [fE_len]
  show zAt M1 (a + 1) (a + 2) (s0 + out.length) [(stepOf k, x, 0)]
  rw [hk]
  exact ⟨a2, fun _ => a3, fun q => absurd q hk3, trivial⟩
/-- signs that wait come out, whatever there is -/
def wOK (M : zM) : Prop := ∃ w, w ≤ 21 ∧ M 5 4 = nI w
def puA (a : Nat) : Nat → Nat → Prop := fun b k => adA a b k ∨ (b = 5 ∧ k = 4)
theorem X5_bondT (y : Int32) : ∃ z, f_X5_bond y = some z := by
  unfold f_X5_bond
  split
  · exact ⟨_, rfl⟩
  split
  · exact ⟨_, rfl⟩
  split
  · exact ⟨_, rfl⟩
  split <;> exact ⟨_, rfl⟩
theorem put_init {M : zM} {w : Nat} (hw : w ≤ 21) (h : M 5 4 = nI w) : (if (21 : Int32) < M 5 4 then (21 : Int32) else M 5 4) - 1 = if w = 0 then -1 else nI (w - 1) := by
  rw [h, if_neg (by rw [nI_lit 21]; exact nI_nlt hw (by omega))]
  by_cases c : w = 0
  · subst c
    rfl
  · rw [if_neg c, nI_sub1 (by omega)]
theorem X5_putT {R : zR} {M : zM} {a : Nat} (hp : zRp R) (hR : zLr R a) (ha : 12 < a) (lb : Int32) (hw : wOK M) : zT (f_X5_putSigns R M 5 a lb) (fun M1 => zag (puA a) M M1 ∧ wOK M1) := by
  obtain ⟨w, hw, ew⟩ := hw
  unfold f_X5_putSigns
  rw [put_init hw ew]
  refine zT_bd ?_
  refine zT_loop (fun m v => v.1 = (if m = 0 then -1 else nI (m - 1)) ∧ m ≤ 21 ∧ zag (puA a) M v.2 ∧ wOK v.2) w ⟨rfl, hw, zag.rf, ⟨w, hw, ew⟩⟩ (by omega) ?_
  rintro m ⟨y, M1⟩ ⟨rfl, hm, g1, k1⟩
  simp only at g1 k1 ⊢
  unfold b_X5_putSigns_15
  by_cases m0 : m = 0
  · rw [if_pos m0]
    exact zT_if1 (by decide) (zT_some (zT_some ⟨g1, k1⟩))
  · rw [if_neg m0, hp.2.2.2.1]
    refine zT_if0 (nI_pos (by omega)) (zT_ck (zin_nI (by omega) (by omega)) (zT_bd ?_))
    obtain ⟨z, hz⟩ := X5_bondT (M1 12 (ztn (nI (m - 1))))
    refine zT_eq hz (zT_if (fun _ => zT_some (zT_some ⟨g1, k1⟩)) (fun _ => zT_ck (zin_nI (by omega) (by omega)) (zT_bd (zT_w (X3_addT hR _ _) ?_))))
    intro M2 g2
    refine zT_lt (zT_some ⟨m - 1, by omega, ?_, by omega, (g1.tr (g2.mo (fun b k q => Or.inl q))).up (Or.inr ⟨rfl, rfl⟩), ⟨m - 1, by omega, by dsimp only; exact zup_same⟩⟩)
    by_cases m1 : m = 1
    · subst m1
      dsimp only
      decide
    · rw [if_neg (by omega)]
      exact nI_dec (by omega)
/-- signs that wait come out: as told -/
theorem X5_put {R : zR} {M : zM} {a s0 lb : Nat} {stk : List Int32} {out : zEx} (hp : zRp R) (hR : zLr R a) (ha : 12 < a) (hlb : 0 < lb ∧ lb ≤ 2) (hk : ∀ w, w ∈ stk → w ∈ kdL) (hop : ∀ w, w ∈ stk → w = 6 ∨ w = 8 ∨ w = 9 ∨ w = 10 ∨ w = 15) (h4 : M 5 4 = nI stk.length) (hl : stk.length ≤ 20) (hS : zStk M 12 (stk.map ckF)) (hs : M a 3 = nI (s0 + out.length)) (hb : s0 + out.length + opsN stk ≤ 400) (hz : zAt M (a + 1) (a + 2) s0 (fE out)) :
    zT (f_X5_putSigns R M 5 a (nI lb)) (fun M1 => M1 5 4 = nI (popS lb stk).2.length ∧ M1 a 3 = nI (s0 + (out ++ (popS lb stk).1).length) ∧ zAt M1 (a + 1) (a + 2) s0 (fE (out ++ (popS lb stk).1)) ∧ blw a (s0 + out.length) M M1 ∧ (M1 a 4 = 0 → M a 4 = 0) ∧ zag (puA a) M M1) := by
  obtain ⟨ans, hA⟩ : ∃ ans, out ++ (popS lb stk).1 = ans := ⟨_, rfl⟩
  obtain ⟨fin, hF⟩ : ∃ fin, (popS lb stk).2 = fin := ⟨_, rfl⟩
  rw [hA, hF]
  unfold f_X5_putSigns
  rw [put_init (by omega) h4]
  refine zT_bd ?_
  refine zT_loop (fun m v => ∃ (st : List Int32) (o : zEx), m = st.length ∧ v.1 = (if st.length = 0 then -1 else nI (st.length - 1)) ∧ (∀ w, w ∈ st → w ∈ kdL) ∧ (∀ w, w ∈ st → w = 6 ∨ w = 8 ∨ w = 9 ∨ w = 10 ∨ w = 15) ∧ st.length ≤ 20 ∧ v.2 5 4 = nI st.length ∧ zStk v.2 12 (st.map ckF) ∧ v.2 a 3 = nI (s0 + o.length) ∧ out.length ≤ o.length ∧ s0 + o.length + opsN st ≤ 400 ∧ zAt v.2 (a + 1) (a + 2) s0 (fE o) ∧ blw a (s0 + out.length) M v.2 ∧ (v.2 a 4 = 0 → M a 4 = 0) ∧ zag (puA a) M v.2 ∧ o ++ (popS lb st).1 = ans ∧ (popS lb st).2 = fin) stk.length ⟨stk, out, rfl, rfl, hk, hop, hl, h4, hS, hs, Nat.le_refl _, hb, hz, fun i _ => ⟨rfl, rfl⟩, fun q => q, zag.rf, hA, hF⟩ (by omega) ?_
  rintro m ⟨y, M1⟩ ⟨st, o, rfl, rfl, k1, o1, l1, e4, S1, e3, lo, b1, z1, w1, f1, g1, A1, F1⟩
  simp only at e4 S1 e3 z1 w1 f1 g1 ⊢
  unfold b_X5_putSigns_15
  cases st with
  | nil =>
    refine zT_if1 (by decide) (zT_some (zT_some ?_))
    have A1' : o = ans := by rw [← A1]; exact (List.append_nil o).symm
    have F1' : [] = fin := F1
    rw [← A1', ← F1']
    exact ⟨e4, e3, z1, w1, f1, g1⟩
  | cons w st =>
    rw [List.length_cons, if_neg (show ¬ st.length + 1 = 0 by omega), Nat.add_sub_cancel, hp.2.2.2.1]
    rw [List.length_cons] at l1 e4
    have kw := k1 w (by simp)
    have top : M1 12 st.length = ckF w := by
      have := S1.1
      rw [List.length_map] at this
      exact this
    refine zT_if0 (nI_pos (by omega)) (zT_ck (zin_nI (by omega) (by omega)) (zT_bd ?_))
    rw [ztn_nI (by omega), top]
    refine zT_eq (X5_bond kw) ?_
    have b2 := bondR_2 w
    unfold popS at A1 F1
    by_cases c : bondR w < lb
    · rw [if_pos c] at A1 F1
      refine zT_if1 (nI_lt c (by omega)) (zT_some (zT_some ?_))
      have A1' : o = ans := by rw [← A1]; exact (List.append_nil o).symm
      have F1' : w :: st = fin := F1
      rw [← A1', ← F1', List.length_cons]
      exact ⟨e4, e3, z1, w1, f1, g1⟩
    · rw [if_neg c] at A1 F1
      have w6 : ¬ w = 6 := fun e => c (by rw [e]; exact hlb.1)
      have wo : stepOf (opC w) = ckF w ∧ ckF w ≠ 3 ∧ ckF w ≠ 2 := by
        rcases o1 w (by simp) with e | e | e | e | e
        · exact absurd e w6
        all_goals rw [e]; decide
      have n1 : opsN (w :: st) = opsN st + 1 := by rw [opsN_c, if_neg w6]
      rw [n1] at b1
      refine zT_if0 (nI_nlt (by omega) (by omega)) (zT_ck (zin_nI (by omega) (by omega)) (zT_bd (zT_w (X3_addE hR e3 (by omega) z1 wo.1 wo.2.1) ?_)))
      rintro M2 ⟨a1, a2, a3, a4, a5⟩
      have n12 : ∀ i, M2 12 i = M1 12 i := fun i => a5 12 i (by unfold adA; omega)
      refine zT_lt (zT_some ⟨st.length, by simp, st, o ++ [(opC w, 0)], rfl, ?_, fun v hv => k1 v (by simp [hv]), fun v hv => o1 v (by simp [hv]), by omega, by dsimp only; exact zup_same, ?_, ?_, ?_, ?_, ?_, ?_, ?_, ?_, ?_, F1⟩)
      · dsimp only
        by_cases c0 : st.length = 0
        · rw [if_pos c0, c0]
          decide
        · rw [if_neg c0]
          exact nI_dec (by omega)
      · have : ∀ (l : List Int32), zStk M1 12 l → zStk (zup M2 5 4 (nI st.length)) 12 l := by
          intro l
          induction l with
          | nil => intro _; trivial
          | cons v l ih =>
            intro hl
            exact ⟨by rw [zup_a (by omega), n12]; exact hl.1, ih hl.2⟩
        exact this _ S1.2
      · dsimp only
        rw [zup_a (by omega)]
        exact a1
      · rw [List.length_append]; omega
      · rw [List.length_append]
        simp only [List.length_singleton]
        omega
      · exact zAt.eq (fun k => zup_a (by omega)) (fun k => zup_a (by omega)) _ _ a2
      · intro i hi
        obtain ⟨q1, q2⟩ := (w1.tr a3 (by omega)) i hi
        dsimp only
        rw [zup_a (by omega), zup_a (by omega)]
        exact ⟨q1, q2⟩
      · intro q
        dsimp only at q
        rw [zup_a (by omega)] at q
        exact f1 (a4 q).1
      · exact (g1.tr (a5.mo (fun b k q => Or.inl q))).up (Or.inr ⟨rfl, rfl⟩)
      · rw [List.append_assoc]
        exact A1

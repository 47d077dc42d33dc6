/-! BECOMES -/
theorem seekF_no {P : Nat → Bool} : ∀ (m k : Nat), seekF P m k = none → ∀ j, k ≤ j → j < k + m → P j = false
  | 0, _, _, j, h1, h2 => absurd h1 (by omega)
  | m + 1, k, h, j, h1, h2 => by
    unfold seekF at h
    by_cases c : P k = true
    · rw [if_pos c] at h
      cases h
    · rw [if_neg c] at h
      by_cases e : j = k
      · subst e
        simpa using c
      · exact seekF_no m (k + 1) h j (by omega) (by omega)
/-- purses and the pot are alike -/
def sameB (n : Nat) (f g : Nat → Int32) : Bool := (seekF (fun i => !(decide (f i = g i))) n 0).isNone && decide (f 41 = g 41)
theorem sameB_t {n : Nat} {f g : Nat → Int32} (h : sameB n f g = true) : (∀ i, i < n → f i = g i) ∧ f 41 = g 41 := by
  unfold sameB at h
  rw [Bool.and_eq_true, decide_eq_true_eq] at h
  refine ⟨fun i hi => ?_, h.2⟩
  have := seekF_no _ _ (Option.isNone_iff_eq_none.mp h.1) i (by omega) (by omega)
  simpa using this
theorem sameB_f {n : Nat} {f g : Nat → Int32} (h : sameB n f g = false) : ¬ ((∀ i, i < n → f i = g i) ∧ f 41 = g 41) := by
  rintro ⟨h1, h2⟩
  unfold sameB at h
  have : seekF (fun i => !(decide (f i = g i))) n 0 = none := by
    cases hs : seekF (fun i => !(decide (f i = g i))) n 0 with
    | none => rfl
    | some j =>
      obtain ⟨_, b, c⟩ := seekF_lt _ _ _ hs
      have := h1 j (by omega)
      simp [this] at c
  rw [this] at h
  simp [h2] at h
def becP (n : Nat) (w : Nat → Nat → Int32) (k s : Nat) : Bool := sameB n (w s) (w (s + (k + 1)))
def becQ (n : Nat) (w : Nat → Nat → Int32) (k : Nat) : Bool := (seekF (becP n w k) (300 - k) 0).isSome
def becS (n : Nat) (w : Nat → Nat → Int32) : Option (Nat × Nat) := (seekF (becQ n w) 300 0).bind fun k => (seekF (becP n w k) (300 - k) 0).map fun s => (k + 1, s)
section TRY
variable {R : zR} {M : zM} {ru : zRu} {q l n T S u x : Nat}
theorem X1_walk (h : zSt R M ru q l n T S u x) (hT : T + 3100000 < 2147483648) (hS : S + 400 < 2147483648) : zT (f_X1_walk R M 187 q 13) (fun M1 => (∀ e, e ≤ 300 → M1 193 (11 * e) = evesF n (ruH ru) ru (rowF M) e 41 ∧ ∀ i, i < n → M1 193 (11 * e + 1 + i) = evesF n (ruH ru) ru (rowF M) e i) ∧ M1 188 4 = nI n ∧ zag zsk M M1) := by
  have hn := h.n10
  obtain ⟨t0, t1, t2, -⟩ := h.rt
  have ht : zTr 188 := by unfold zTr; omega
  unfold f_X1_walk
  rw [t0]
  refine zT_bd (zT_w (h.copyC t2 ht) ?_)
  rintro M1 ⟨w1, g1, f1⟩
  refine zT_bd ?_
  refine zT_for 301 (fun k v => v.1 = nI k ∧ RW v.2 188 n (evesF n (ruH ru) ru (rowF M) k) ∧ zag zsk M v.2 ∧ ∀ e, e < k → v.2 193 (11 * e) = evesF n (ruH ru) ru (rowF M) e 41 ∧ ∀ i, i < n → v.2 193 (11 * e + 1 + i) = evesF n (ruH ru) ru (rowF M) e i) ⟨rfl, w1, zst.sk g1, fun e he => absurd he (by omega)⟩ (by omega) ?_ ?_
  · rintro k ⟨y, M2⟩ hk ⟨rfl, w2, g2, d2⟩
    simp only at w2 g2 d2 ⊢
    unfold b_X1_walk_10
    have ix : nI k * (11 : Int32) = nI (11 * k) := by rw [nI_lit 11, pk_mul, Nat.mul_comm]
    rw [t0, t1, ix]
    refine zT_if0 (by rw [nI_lit 300]; exact nI_nlt (by omega) (by omega)) (zT_ck (zin_nI (by omega) (by omega)) (zT_lt (zT_bd ?_)))
    rw [ztn_nI (by omega), w2.2.2.2.1]
    refine zT_w (Q := fun M3 : zM => (∀ j, M3 193 j = if j = 11 * k then evesF n (ruH ru) ru (rowF M) k 41 else if 11 * k + 1 ≤ j ∧ j < 11 * k + 1 + n then evesF n (ruH ru) ru (rowF M) k (j - (11 * k + 1)) else M2 193 j) ∧ zag (fun b _ => b = 193) M2 M3) (zT_for n (fun i v => v.1 = nI i ∧ (∀ j, v.2 193 j = if j = 11 * k then evesF n (ruH ru) ru (rowF M) k 41 else if 11 * k + 1 ≤ j ∧ j < 11 * k + 1 + i then evesF n (ruH ru) ru (rowF M) k (j - (11 * k + 1)) else M2 193 j) ∧ zag (fun b _ => b = 193) M2 v.2) ⟨rfl, fun j => ?_, zag.up (A := fun b _ => b = 193) zag.rf rfl⟩ (by omega) ?_ ?_) ?_
    · show zup M2 193 (11 * k) _ 193 j = _
      by_cases c : j = 11 * k
      · subst c
        rw [zup_same, if_pos rfl]
      · rw [zup_k c, if_neg c, if_neg (by omega)]
    · rintro i ⟨y, M3⟩ hi ⟨rfl, e3, g3⟩
      simp only at e3 g3 ⊢
      unfold b_X1_walk_40
      have w3 : RW M3 188 n (evesF n (ruH ru) ru (rowF M) k) := w2.cells (fun a k q1 q2 => g3 a k (by omega))
      have ix2 : nI (11 * k) + (1 : Int32) + nI i = nI (11 * k + 1 + i) := by rw [nI_1, nI_add]
      rw [t0, t1, t2.1, ix2]
      refine zT_if0 (by rw [nI_lit 10]; exact nI_ge (by omega) (by omega)) (zT_bd (zT_eq (hz_yes w3 hi) (zT_if0 (by decide) (zT_ck (zin_nI (by omega) (by omega)) (zT_ck (zin_nI (by omega) (by omega)) (zT_lt (zT_some ⟨nI_1 _, fun j => ?_, g3.up rfl⟩)))))))
      rw [ztn_nI (by omega), ztn_nI (by omega)]
      show zup M3 193 (11 * k + 1 + i) (M3 (188 + 1) i) 193 j = _
      rw [(w3.2.2.2.2.2.2 i hi).1]
      by_cases c : j = 11 * k + 1 + i
      · subst c
        rw [zup_same, if_neg (by omega), if_pos (by omega), show 11 * k + 1 + i - (11 * k + 1) = i by omega]
      · rw [zup_k c, e3]
        by_cases c2 : j = 11 * k
        · rw [if_pos c2, if_pos c2]
        · rw [if_neg c2, if_neg c2]
          by_cases c3 : 11 * k + 1 ≤ j ∧ j < 11 * k + 1 + i
          · rw [if_pos c3, if_pos (by omega)]
          · rw [if_neg c3, if_neg (by omega)]
    · rintro ⟨y, M3⟩ ⟨rfl, e3, g3⟩
      simp only at e3 g3 ⊢
      unfold b_X1_walk_40
      have w3 : RW M3 188 n (evesF n (ruH ru) ru (rowF M) k) := w2.cells (fun a k q1 q2 => g3 a k (by omega))
      rw [t0]
      exact zT_if (fun _ => zT_some ⟨e3, g3⟩) (fun _ => zT_bd (zT_eq (hz_end w3) (zT_if1 rfl (zT_some ⟨e3, g3⟩))))
    · rintro M3 ⟨e3, g3⟩
      have w3 : RW M3 188 n (evesF n (ruH ru) ru (rowF M) k) := w2.cells (fun a k q1 q2 => g3 a k (by omega))
      have g03 : zag zsk M M3 := g2.tr (g3.mo (fun b k e => by unfold zsk; omega))
      have h3 := h.sc (zsk.sc g03)
      rw [h3.how]
      refine zT_bd (zT_w (h3.eveC t2 ht w3 (h.gd.eves k (by omega) (by omega)) (by omega) h.ok.1) ?_)
      rintro M4 ⟨w4, g4, f4⟩
      have c4 : ∀ j, M4 193 j = M3 193 j := fun j => g4 193 j (by unfold zst; omega)
      refine zT_some ⟨nI_1 _, w4, g03.tr (zst.sk g4), fun e he => ?_⟩
      show M4 193 (11 * e) = _ ∧ ∀ i, i < n → M4 193 (11 * e + 1 + i) = _
      refine ⟨?_, fun i hi => ?_⟩
      · rw [c4, e3]
        by_cases c : e = k
        · subst c
          rw [if_pos rfl]
        · rw [if_neg (by omega), if_neg (by omega)]
          exact (d2 e (by omega)).1
      · rw [c4, e3]
        by_cases c : e = k
        · subst c
          rw [if_neg (by omega), if_pos (by omega), show 11 * e + 1 + i - (11 * e + 1) = i by omega]
        · rw [if_neg (by omega), if_neg (by omega)]
          exact (d2 e (by omega)).2 i hi
  · rintro ⟨y, M2⟩ ⟨rfl, w2, g2, d2⟩
    simp only at w2 g2 d2 ⊢
    unfold b_X1_walk_10
    exact zT_if1 (by decide) (zT_some (zT_some ⟨fun e he => d2 e (by omega), w2.2.1, g2⟩))
theorem X1_isSame (h : zSt R M ru q l n T S u x) {w : Nat → Nat → Int32} (hw : ∀ e, e ≤ 300 → M 193 (11 * e) = w e 41 ∧ ∀ i, i < n → M 193 (11 * e + 1 + i) = w e i) (h4 : M 188 4 = nI n) {s t : Nat} (hs : s ≤ 300) (ht : t ≤ 300) : f_X1_isSame R M 187 (nI s) (nI t) = some (if sameB n (w s) (w t) = true then 1 else 0) := by
  have hn := h.n10
  obtain ⟨t0, t1, t2, -⟩ := h.rt
  apply zT_val
  unfold f_X1_isSame
  have ix : nI s * (11 : Int32) = nI (11 * s) := by rw [nI_lit 11, pk_mul, Nat.mul_comm]
  have ix2 : nI t * (11 : Int32) = nI (11 * t) := by rw [nI_lit 11, pk_mul, Nat.mul_comm]
  rw [ix, ix2]
  obtain ⟨a1, a2⟩ := hw s hs
  obtain ⟨b1, b2⟩ := hw t ht
  refine zT_bd ?_
  refine zT_seek (n + 1) (fun i => !(decide (M 193 (11 * s + i) = M 193 (11 * t + i)))) (fun i v => v = nI i) rfl (by omega) ?_ ?_ ?_
  · rintro i v hi rfl hp
    unfold b_X1_isSame_14
    rw [t0, t1, h4, nI_add, nI_add]
    refine zT_if0 (nI_nlt (by omega) (by omega)) (zT_if0 (by rw [nI_lit 11]; exact nI_ge (by omega) (by omega)) (zT_ck (zin_nI (by omega) (by omega)) (zT_ck (zin_nI (by omega) (by omega)) ?_)))
    rw [ztn_nI (by omega), ztn_nI (by omega)]
    exact zT_if1 (by simpa using hp) (zT_some (nI_1 _))
  · rintro i v hi rfl hp hseek
    unfold b_X1_isSame_14
    rw [t0, t1, h4, nI_add, nI_add]
    refine zT_if0 (nI_nlt (by omega) (by omega)) (zT_if0 (by rw [nI_lit 11]; exact nI_ge (by omega) (by omega)) (zT_ck (zin_nI (by omega) (by omega)) (zT_ck (zin_nI (by omega) (by omega)) ?_)))
    rw [ztn_nI (by omega), ztn_nI (by omega)]
    have hne : ¬ M 193 (11 * s + i) = M 193 (11 * t + i) := by simpa using hp
    refine zT_if0 hne (zT_some (zT_some ?_))
    cases hb : sameB n (w s) (w t) with
    | false => rfl
    | true =>
      obtain ⟨c1, c2⟩ := sameB_t hb
      refine absurd ?_ hne
      by_cases i0 : i = 0
      · subst i0
        rw [Nat.add_zero, Nat.add_zero, a1, b1]
        exact c2
      · have := c1 (i - 1) (by omega)
        rw [← a2 (i - 1) (by omega), ← b2 (i - 1) (by omega), show 11 * s + 1 + (i - 1) = 11 * s + i by omega, show 11 * t + 1 + (i - 1) = 11 * t + i by omega] at this
        exact this
  · rintro v rfl hseek
    unfold b_X1_isSame_14
    rw [t0, h4]
    have fin : zT (Sum.elim (fun _ : Unit => some (0 : Int32)) (fun _ : Unit => some (1 : Int32)) (Sum.inr ())) (fun y => y = if sameB n (w s) (w t) = true then 1 else 0) := by
      refine zT_some ?_
      cases hb : sameB n (w s) (w t) with
      | true => rfl
      | false =>
        refine absurd ⟨fun i hi => ?_, ?_⟩ (sameB_f hb)
        · have := seekF_no _ _ hseek (i + 1) (by omega) (by omega)
          rw [← a2 i hi, ← b2 i hi, show 11 * s + 1 + i = 11 * s + (i + 1) by omega, show 11 * t + 1 + i = 11 * t + (i + 1) by omega]
          simpa using this
        · have := seekF_no _ _ hseek 0 (by omega) (by omega)
          rw [← a1, ← b1]
          simpa using this
    exact zT_if1 (nI_lt (by omega) (by omega)) (zT_some fin)
theorem X1_period (h : zSt R M ru q l n T S u x) (hT : T + 3100000 < 2147483648) (hS : S + 400 < 2147483648) (y : Int32) : zT (f_X1_period R M 187 q 13 y) (fun p => p.1 = ((becS n (fun e => evesF n (ruH ru) ru (rowF M) e)).elim (-2) fun r => if y = 0 then nI r.2 else nI r.1) ∧ zag zsk M p.2) := by
  have hn := h.n10
  unfold f_X1_period
  refine zT_bd (zT_w (X1_walk h hT hS) ?_)
  rintro M1 ⟨d1, c4, g1⟩
  have h1 := h.sc (zsk.sc g1)
  obtain ⟨w, hw⟩ : ∃ w : Nat → Nat → Int32, w = fun e => evesF n (ruH ru) ru (rowF M) e := ⟨_, rfl⟩
  have d1' : ∀ e, e ≤ 300 → M1 193 (11 * e) = w e 41 ∧ ∀ i, i < n → M1 193 (11 * e + 1 + i) = w e i := by rw [hw]; exact d1
  rw [← hw]
  have inner : ∀ k, k < 300 → zT (zloop zN (fun v => b_X1_period_20 R M1 187 y (nI (k + 1)) v) (0 : Int32)) (Sum.elim (fun r => ∃ s, seekF (becP n w k) (300 - k) 0 = some s ∧ r = nI s) (fun _ => seekF (becP n w k) (300 - k) 0 = none)) := by
    intro k hk
    refine zT_seek (300 - k) (becP n w k) (fun s v => v = nI s) rfl (by omega) ?_ ?_ ?_
    · rintro s v hs rfl hp
      unfold b_X1_period_20
      rw [nI_add]
      refine zT_if0 (by rw [nI_lit 300]; exact nI_nlt (by omega) (by omega)) (zT_bd (zT_eq (X1_isSame h1 d1' c4 (by omega) (by omega)) (zT_if1 ?_ (zT_some (nI_1 _)))))
      unfold becP at hp
      rw [hp]
      rfl
    · rintro s v hs rfl hp hk
      unfold b_X1_period_20
      rw [nI_add]
      refine zT_if0 (by rw [nI_lit 300]; exact nI_nlt (by omega) (by omega)) (zT_bd (zT_eq (X1_isSame h1 d1' c4 (by omega) (by omega)) (zT_if0 ?_ (zT_some ⟨s, hk, rfl⟩))))
      unfold becP at hp
      rw [hp]
      decide
    · rintro v rfl hk
      unfold b_X1_period_20
      rw [nI_add]
      exact zT_if1 (by rw [nI_lit 300]; exact nI_lt (by omega) (by omega)) (zT_some hk)
  refine zT_bd ?_
  refine zT_seek 300 (becQ n w) (fun k v => v = nI (k + 1)) rfl (by omega) ?_ ?_ ?_
  · rintro k v hk rfl hp
    unfold b_X1_period_9
    refine zT_if0 (by rw [nI_lit 300]; exact nI_nlt (by omega) (by omega)) (zT_bd (zT_w (inner k hk) ?_))
    rintro (r | r) hx
    · obtain ⟨s, e, -⟩ := hx
      unfold becQ at hp
      rw [e] at hp
      exact absurd hp (by simp)
    · exact zT_some (nI_1 _)
  · rintro k v hk rfl hp hseek
    unfold b_X1_period_9
    refine zT_if0 (by rw [nI_lit 300]; exact nI_nlt (by omega) (by omega)) (zT_bd (zT_w (inner k hk) ?_))
    rintro (r | r) hx
    · obtain ⟨s, e, rfl⟩ := hx
      have eS : becS n w = some (k + 1, s) := by
        unfold becS
        rw [hseek]
        simp only [Option.bind_some]
        rw [e]
        rfl
      rw [eS]
      refine zT_some (zT_if (fun c => zT_some ⟨?_, g1⟩) (fun c => zT_some ⟨?_, g1⟩))
      · show nI s = if y = 0 then nI s else nI (k + 1)
        rw [if_pos c]
      · show nI (k + 1) = if y = 0 then nI s else nI (k + 1)
        rw [if_neg c]
    · unfold becQ at hp
      rw [show seekF (becP n w k) (300 - k) 0 = none from hx] at hp
      exact absurd hp (by simp)
  · rintro v rfl hseek
    unfold b_X1_period_9
    have eS : becS n w = none := by
      unfold becS
      rw [hseek]
      rfl
    rw [eS]
    exact zT_if1 (by decide) (zT_some (zT_some ⟨rfl, g1⟩))
end TRY

/-! A LAW'S WORD, on the class's side -/
def noLot (P : zPr) : Prop := ∀ b, b ∈ P → ∀ i, i ∈ inB b → i.1 = 1 → i.2 ≠ 5
def zCr (R : zR) (M : zM) (q : Nat) (ru : zRu) : Prop := R q 0 = q + 1 ∧ R q 1 = q + 5 ∧ R q 3 = q + 10 ∧ R q 4 = q + 11 ∧ M q 6 = ruS ru ∧ M q 7 = ruT ru ∧ M q 8 = ruH ru ∧ M q 9 = ruE ru ∧ M q 10 = ruD ru ∧ zLw R M (q + 1) (fP (ruP ru)) ∧ zLw R M (q + 5) (fP (ruQ ru)) ∧ (M (q + 1) 4 = 0 → noLot (ruP ru)) ∧ (M (q + 5) 4 = 0 → noLot (ruQ ru))
theorem zLw.eq {R : zR} {M M1 : zM} {a : Nat} {c : List (Int32 × Int32 × Nat)} (h : zLw R M a c) (he : ∀ b k, a ≤ b → b < a + 3 → M1 b k = M b k) : zLw R M1 a c := by
  obtain ⟨h0, h1, h2, h3, h4, h5⟩ := h
  exact ⟨h0, h1, h2, by rw [he a 3 (by omega) (by omega)]; exact h3, h4, zAt.eq (fun k => he _ k (by omega) (by omega)) (fun k => he _ k (by omega) (by omega)) _ _ h5⟩
theorem zCr.eq {R : zR} {M M1 : zM} {q : Nat} {ru : zRu} (h : zCr R M q ru) (he : ∀ b k, q ≤ b → b < q + 8 → b ≠ q + 4 → M1 b k = M b k) : zCr R M1 q ru := by
  obtain ⟨h0, h1, h2, h3, h4, h5, h6, h7, h8, h9, h10, h11, h12⟩ := h
  have g : ∀ k, M1 q k = M q k := fun k => he q k (by omega) (by omega) (by omega)
  exact ⟨h0, h1, h2, h3, by rw [g]; exact h4, by rw [g]; exact h5, by rw [g]; exact h6, by rw [g]; exact h7, by rw [g]; exact h8, h9.eq (fun b k q1 q2 => he b k (by omega) (by omega) (by omega)), h10.eq (fun b k q1 q2 => he b k (by omega) (by omega) (by omega)), by rw [he (q + 1) 4 (by omega) (by omega) (by omega)]; exact h11, by rw [he (q + 5) 4 (by omega) (by omega) (by omega)]; exact h12⟩
theorem X7_lot {M : zM} {q : Nat} (z : Int32) : f_X7_lot M q z = some (lotF (M q 10) z) := by
  apply zT_val
  unfold f_X7_lot
  refine zT_bd ?_
  refine zT_for 2 (fun k v => v.2 = nI k ∧ v.1 = (match k with | 0 => M q 10 | 1 => mixF (M q 10) 25 | _ => mixF (mixF (M q 10) 25) z)) ⟨rfl, rfl⟩ (by omega) ?_ ?_
  · rintro k ⟨x, y⟩ hk ⟨rfl, rfl⟩
    unfold b_X7_lot_7
    simp only
    rcases (show k = 0 ∨ k = 1 by omega) with rfl | rfl
    · exact zT_if0 (by decide) (zT_if1 rfl (zT_some ⟨nI_1 _, rfl⟩))
    · exact zT_if0 (by decide) (zT_if0 (by decide) (zT_some ⟨nI_1 _, rfl⟩))
  · rintro ⟨x, y⟩ ⟨rfl, rfl⟩
    unfold b_X7_lot_7
    simp only
    exact zT_if1 (by decide) (zT_some (zT_some rfl))
def lkA (q : Nat) : Nat → Nat → Prop := fun b _ => b = q + 10
theorem lkA.up {M M1 : zM} {q k : Nat} {v : Int32} (h : zag (lkA q) M M1) : zag (lkA q) M (zup M1 (q + 10) k v) := h.up rfl
theorem RW.out {M M1 : zM} {r n : Nat} {w : Nat → Int32} {A : Nat → Nat → Prop} (h : RW M r n w) (hg : zag A M M1) (hA : ∀ b k, A b k → r + 5 ≤ b) : RW M1 r n w := h.eq hg (fun a k q1 q2 q3 => by have := hA a k q3; omega)
theorem X7_look57 {R : zR} {M : zM} {q r n h a b : Nat} {w : Nat → Int32} {ru : zRu} (hc : zCr R M q ru) (hR : zrg R r) (hw : RW M r n w) (hq : r + 5 ≤ q) (hh : h < n) (ha : a < n) (hb : b < n) (ea : leftF n (ruS ru) h = a) (eb : rightF n (ruS ru) h = b) (fl : Int32) : zT (j_X7_look_57 R M q r (nI h) fl (nI a) (nI b)) (fun M1 => zag (lkA q) M M1 ∧ ∀ k, k < 7 → k ≠ 5 ∨ fl ≠ 0 → M1 (q + 10) k = vF n (ruS ru) (ruD ru) w h k) := by
  have r3 : R q 3 = q + 10 := hc.2.2.1
  unfold j_X7_look_57
  refine zT_bd (zT_eq (X6_shown hR hw ha) (zT_bd (zT_eq (X6_shown hR hw hb) (zT_lt (zT_lt (zT_bd ?_))))))
  rw [r3]
  have w2 : RW (zup (zup M (q + 10) (ztn 0) (shF w a)) (q + 10) (ztn 1) (shF w b)) r n w := hw.out (A := lkA q) (lkA.up (lkA.up zag.rf)) (fun b k e => by unfold lkA at e; omega)
  refine zT_eq (X6_shown hR w2 hh) (zT_lt (zT_lt (zT_lt (zT_lt ?_))))
  obtain ⟨_, _, _, w5, w6, _, _⟩ := id hw
  have m6 : zup (zup (zup (zup M (q + 10) (ztn 0) (shF w a)) (q + 10) (ztn 1) (shF w b)) (q + 10) (ztn 2) (shF w h)) (q + 10) (ztn 3) (if 0 ≤ shF w a - shF w b then shF w a - shF w b else 0 - (shF w a - shF w b)) r 6 = w 42 := by
    simp (disch := omega) only [zup_a]
    exact w6
  rw [m6]
  have m5 : zup (zup (zup (zup (zup M (q + 10) (ztn 0) (shF w a)) (q + 10) (ztn 1) (shF w b)) (q + 10) (ztn 2) (shF w h)) (q + 10) (ztn 3) (if 0 ≤ shF w a - shF w b then shF w a - shF w b else 0 - (shF w a - shF w b))) (q + 10) (ztn 4) (w 42) r 5 = w 41 := by
    simp (disch := omega) only [zup_a]
    exact w5
  rw [m5]
  generalize hM6 : zup (zup (zup (zup (zup (zup M (q + 10) (ztn 0) (shF w a)) (q + 10) (ztn 1) (shF w b)) (q + 10) (ztn 2) (shF w h)) (q + 10) (ztn 3) (if 0 ≤ shF w a - shF w b then shF w a - shF w b else 0 - (shF w a - shF w b))) (q + 10) (ztn 4) (w 42)) (q + 10) (ztn 6) (w 41) = M6
  have g6 : zag (lkA q) M M6 := by
    rw [← hM6]
    exact lkA.up (lkA.up (lkA.up (lkA.up (lkA.up (lkA.up zag.rf)))))
  have v6 : ∀ k, k < 7 → k ≠ 5 → M6 (q + 10) k = vF n (ruS ru) (ruD ru) w h k := by
    intro k hk h5
    rw [← hM6]
    simp only [show ztn 0 = 0 from rfl, show ztn 1 = 1 from rfl, show ztn 2 = 2 from rfl, show ztn 3 = 3 from rfl, show ztn 4 = 4 from rfl, show ztn 6 = 6 from rfl]
    rcases (show k = 0 ∨ k = 1 ∨ k = 2 ∨ k = 3 ∨ k = 4 ∨ k = 6 by omega) with rfl | rfl | rfl | rfl | rfl | rfl
    all_goals simp (disch := omega) only [zup_k, zup_same, vF]
    · rw [ea]
    · rw [eb]
    · unfold gapF absF
      rw [ea, eb]
      simp only [Int32.zero_sub]
  have last : ∀ v : Int32, (fl ≠ 0 → v = lotF (ruD ru) (20 * w 42 + nI h)) → zT (j_X7_look_163 R M6 (q + 10) 5 v) (fun M1 => zag (lkA q) M M1 ∧ ∀ k, k < 7 → k ≠ 5 ∨ fl ≠ 0 → M1 (q + 10) k = vF n (ruS ru) (ruD ru) w h k) := fun v hv => by
    unfold j_X7_look_163
    refine zT_ck (by decide) (zT_lt (zT_some ⟨lkA.up g6, fun k hk hf => ?_⟩))
    show zup M6 (q + 10) 5 v (q + 10) k = _
    by_cases h5 : k = 5
    · subst h5
      rw [zup_same, hv (hf.resolve_left (by simp))]
      rfl
    · rw [zup_k h5]
      exact v6 k hk h5
  refine zT_if (fun e => last _ (fun e2 => absurd e e2)) (fun e => zT_bd ?_)
  have k6 : M6 r 6 = w 42 := by rw [g6 r 6 (by unfold lkA; omega)]; exact w6
  have k10 : M6 q 10 = ruD ru := by rw [g6 q 10 (by unfold lkA; omega)]; exact hc.2.2.2.2.2.2.2.2.1
  rw [k6]
  refine zT_eq (X7_lot _) (last _ (fun _ => by rw [k10]))
theorem X7_look {R : zR} {M : zM} {q r n h : Nat} {w : Nat → Int32} {ru : zRu} (hc : zCr R M q ru) (hR : zrg R r) (hw : RW M r n w) (hq : r + 5 ≤ q) (hh : h < n) (fl : Int32) : zT (f_X7_look R M q r (nI h) fl) (fun M1 => zag (lkA q) M M1 ∧ ∀ k, k < 7 → k ≠ 5 ∨ fl ≠ 0 → M1 (q + 10) k = vF n (ruS ru) (ruD ru) w h k) := by
  have hn := hw.1
  have m4 : M r 4 = nI n := hw.2.1
  have m6 : M q 6 = ruS ru := hc.2.2.2.2.1
  have right : ∀ a, a < n → leftF n (ruS ru) h = a → zT (j_X7_look_31 R M q r (nI h) fl (nI (n - 1)) (nI a)) (fun M1 => zag (lkA q) M M1 ∧ ∀ k, k < 7 → k ≠ 5 ∨ fl ≠ 0 → M1 (q + 10) k = vF n (ruS ru) (ruD ru) w h k) := fun a ha ea => by
    unfold j_X7_look_31
    rw [m6]
    by_cases he : h + 1 = n
    · refine zT_if1 (nI_le (by omega) (by omega)) (zT_if (fun e => ?_) (fun e => ?_))
      · exact X7_look57 (b := 0) hc hR hw hq hh ha (by omega) ea (by unfold rightF; rw [if_pos he, if_pos e]) fl
      · exact X7_look57 (b := h) hc hR hw hq hh ha hh ea (by unfold rightF; rw [if_pos he, if_neg e]) fl
    · refine zT_if0 (nI_ge (by omega) (by omega)) ?_
      rw [nI_1]
      exact X7_look57 (b := h + 1) hc hR hw hq hh ha (by omega) ea (by unfold rightF; rw [if_neg he]) fl
  unfold f_X7_look
  rw [m4, m6, nI_sub1 (by omega)]
  by_cases h0 : h = 0
  · refine zT_if1 (by subst h0; decide) (zT_if (fun e => ?_) (fun e => ?_))
    · exact right (n - 1) (by omega) (by unfold leftF; rw [if_pos h0, if_pos e])
    · exact right h hh (by unfold leftF; rw [if_pos h0, if_neg e])
  · refine zT_if0 (nI_ge (a := 0) (by omega) (by omega)) ?_
    rw [nI_sub1 (by omega)]
    exact right (h - 1) (by omega) (by unfold leftF; rw [if_neg h0])

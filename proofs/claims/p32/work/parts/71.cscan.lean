/-! READ: what both tokenizers give -/
def vd (l : List Nat) : Nat := l.foldl (fun y x => 10 * y + (x - 48)) 0
theorem vd_s (l : List Nat) (x : Nat) : vd (l ++ [x]) = 10 * vd l + (x - 48) := by
  unfold vd
  rw [List.foldl_append]
  rfl
theorem digd_all : (List.range 256).all (fun x => decide (isD x → (nI x - 48).toInt64 = Int64.ofNat (x - 48))) = true := by decide +kernel
theorem digd {x : Nat} (h : isD x) : (nI x - 48).toInt64 = Int64.ofNat (x - 48) := by
  have hx : x < 256 := by
    have := h.2
    omega
  exact (of_decide_eq_true (List.all_eq_true.1 digd_all x (List.mem_range.2 hx))) h
theorem d10_v : ∀ (n : Nat) (l : List Nat), l.length = n → (∀ x, x ∈ l → isD x) → d10 l = Int64.ofNat (vd l) ∧ vd l < 10 ^ n
  | 0, l, hl, _ => by
    rw [List.length_eq_zero_iff.1 hl]
    exact ⟨rfl, Nat.one_pos⟩
  | n + 1, l, hl, h => by
    obtain ⟨a, x, rfl⟩ := snoc_of l (fun e => by rw [e] at hl; cases hl)
    have la : a.length = n := by
      rw [List.length_append, List.length_singleton] at hl
      omega
    obtain ⟨i1, i2⟩ := d10_v n a la (fun y hy => h y (by simp [hy]))
    have hx := h x (by simp)
    refine ⟨?_, ?_⟩
    · rw [d10_s, vd_s, i1, digd hx, Int64.ofNat_add, Int64.ofNat_mul]
      rfl
    · rw [vd_s, Nat.pow_succ, Nat.mul_comm (10 ^ n) 10]
      omega
theorem d10_4 {l : List Nat} (h4 : l.length ≤ 4) (h : ∀ x, x ∈ l → isD x) : (d10 l).toInt32 = nI (vd l) ∧ vd l < 10000 := by
  obtain ⟨a, b⟩ := d10_v l.length l rfl h
  refine ⟨?_, ?_⟩
  · rw [a]
    exact Int64.toInt32_ofNat
  · have : (10 : Nat) ^ l.length ≤ 10 ^ 4 := Nat.pow_le_pow_right (by omega) h4
    omega
theorem wIx_lt {l : List Nat} {k : Nat} (h : wIx wdR l = some k) : k < 20 := (List.findIdx?_eq_some_iff_findIdx_eq.1 h).1
theorem kd20 : (List.range 20).all (fun k => decide (nI (20 + k) ∈ kdL ∧ nI (20 + k) ≠ 1 ∧ nI (20 + k) ≠ 2)) = true := by decide +kernel
theorem kSg_kd (x : Nat) : kSg x ∈ kdL ∧ kSg x ≠ 1 ∧ kSg x ≠ 2 := by
  unfold kSg
  split
  · decide
  split
  · decide
  split
  · decide
  split
  · decide
  split
  · decide
  split
  · decide
  split
  · decide
  split
  · decide
  split <;> decide
theorem kT_f (l : List Nat) : kT l ∈ kdL ∧ (kT l = 1 → ∃ x m, l = x :: m ∧ isL x ∧ l.length ≤ 8) ∧ (kT l = 2 → ∃ x m, l = x :: m ∧ isD x ∧ l.length ≤ 4) := by
  cases l with
  | nil => exact ⟨by decide, fun h => absurd h (by decide), fun h => absurd h (by decide)⟩
  | cons x m =>
    unfold kT
    dsimp only
    by_cases c1 : isL x
    · rw [if_pos c1]
      by_cases c8 : (x :: m).length ≤ 8
      · rw [if_pos c8]
        cases hk : wIx wdR (x :: m) with
        | none => exact ⟨by decide, fun _ => ⟨x, m, rfl, c1, c8⟩, fun h => absurd h (by decide)⟩
        | some k =>
          obtain ⟨a, b, c⟩ := of_decide_eq_true (List.all_eq_true.1 kd20 k (List.mem_range.2 (wIx_lt hk)))
          exact ⟨a, fun h => absurd h b, fun h => absurd h c⟩
      · rw [if_neg c8]
        exact ⟨by decide, fun h => absurd h (by decide), fun h => absurd h (by decide)⟩
    · rw [if_neg c1]
      by_cases c2 : isD x
      · rw [if_pos c2]
        by_cases c4 : (x :: m).length ≤ 4
        · rw [if_pos c4]
          exact ⟨by decide, fun h => absurd h (by decide), fun _ => ⟨x, m, rfl, c2, c4⟩⟩
        · rw [if_neg c4]
          exact ⟨by decide, fun h => absurd h (by decide), fun h => absurd h (by decide)⟩
      · rw [if_neg c2]
        obtain ⟨a, b, c⟩ := kSg_kd x
        exact ⟨a, fun h => absurd h b, fun h => absurd h c⟩
section CLS
variable {R : zR} {M M1 : zM} {L L1 : zL} {B : Nat → Nat} {n i : Nat}
theorem kN_kd (i : Nat) : kN B n i ∈ kdL := by
  unfold kN
  split
  · exact (kT_f _).1
  · decide
theorem kN_end : endS (kN B n) (cN B n) := fun i hi h => by
  unfold cN at hi ⊢
  unfold kN at h
  by_cases c : i < (tsN B n).length
  · omega
  · rw [if_neg c] at h
    exact absurd rfl h
theorem pN_lt (hB : ∀ i, B i < 256) (hn : n ≤ 2000) : ∀ i j, i < j → j ≤ cN B n → pN B n i < pN B n j := fun i j hij hj => by
  obtain ⟨h1, h2⟩ := tsW hB n
  unfold cN at hj
  have e : (tsN B n).length = (tokS B n).2.length := rfl
  have ci : i < (tsN B n).length := by omega
  have hi2 := (h1 i (by omega)).2
  have e1 : ((tsN B n).getD i z0T).1 < n := hi2
  unfold pN
  rw [if_pos ci]
  by_cases cj : j < (tsN B n).length
  · rw [if_pos cj]
    have hj2 : ((tsN B n).getD j z0T).1 < n := (h1 j (by omega)).2
    have h3 : ((tsN B n).getD i z0T).1 < ((tsN B n).getD j z0T).1 := h2 i j hij (by omega)
    exact nI_lt h3 (by omega)
  · rw [if_neg cj]
    exact nI_lt e1 (by omega)
/-- the class's scan -/
theorem X9_scan (hp : zRp R) (hw : wdOkC L) (hB : ∀ i, B i < 256) (hb : ∀ j, j < n → B j = zbyte (M 4 j)) (hn : n ≤ 2000) (hc : M 3 1 = nI n) : zT (f_X9_scan R M L 6 3) (fun p => tkC p.1 p.2 (kN B n) (vN B n) (pN B n) (cN B n) ∧ (∀ i j, i ≤ cN B n → j ≤ cN B n → kN B n i = 1 → kN B n j = 1 → (eN B n i j = true ↔ p.2 9 i = p.2 9 j)) ∧ zag (fun b _ => 6 ≤ b ∧ b ≤ 10) M p.1 ∧ (∀ b j, b ≠ 9 → p.2 b j = L b j) ∧ ∀ i, i ≤ cN B n → kN B n i = 2 → 0 ≤ vN B n i ∧ vN B n i ≤ 9999) := by
  unfold f_X9_scan
  refine zT_lt ?_
  have g0 : zag sfA M (zup M 6 4 0) := zag.rf.up (Or.inl ⟨rfl, Or.inl rfl⟩)
  have v4 : zup M 6 4 0 6 4 = 0 := zup_same
  generalize zup M 6 4 0 = M0 at g0 v4 ⊢
  have hc0 : M0 3 1 = nI n := by rw [g0 3 1 (by unfold sfA; omega)]; exact hc
  refine zT_bd (zT_w (X9_loop (B := B) (L := L) hp (fun j hj => by rw [g0 4 j (by unfold sfA; omega)]; exact hb j hj) hn hc0 v4) ?_)
  intro e he
  have J : ∀ (M1 : zM) (L1 : zL), scQ B n M0 L (M1, L1) → zT (j_X9_scan_109 R M1 L1 6 3) (fun p => tkC p.1 p.2 (kN B n) (vN B n) (pN B n) (cN B n) ∧ (∀ i j, i ≤ cN B n → j ≤ cN B n → kN B n i = 1 → kN B n j = 1 → (eN B n i j = true ↔ p.2 9 i = p.2 9 j)) ∧ zag (fun b _ => 6 ≤ b ∧ b ≤ 10) M p.1 ∧ (∀ b j, b ≠ 9 → p.2 b j = L b j) ∧ ∀ i, i ≤ cN B n → kN B n i = 2 → 0 ≤ vN B n i ∧ vN B n i ≤ 9999) := fun M1 L1 h => by
    obtain ⟨m, m1, m2, m3, h4, h5, h6, h7⟩ := id h
    dsimp only at h4 h5 h6 h7
    unfold j_X9_scan_109
    rw [h6 3 1 (by unfold sfA; omega), hc0]
    refine zT_bd (zT_w (X9_closed hp (fun k hk => by rw [h7 10 k (by omega)]; exact hw k hk) hB hn h) ?_)
    rintro M2 ⟨a1, a2, a3⟩
    have len : (tsN B n).length = (tokS B n).2.length := rfl
    have tkL : ∀ i, i ≤ cN B n → kN B n i = 1 → i < (tsN B n).length ∧ L1 9 i = e32 ((tsN B n).getD i z0T).2 ∧ ((tsN B n).getD i z0T).2.length ≤ 8 ∧ ∀ x, x ∈ ((tsN B n).getD i z0T).2 → isL x := fun i hi hk => by
      unfold cN at hi
      unfold kN at hk
      by_cases c : i < (tsN B n).length
      case neg =>
        rw [if_neg c] at hk
        exact absurd hk (by decide)
      rw [if_pos c] at hk
      obtain ⟨x, l, e1, e2, e3⟩ := (kT_f _).2.1 hk
      have hX : tkX M1 L1 i ((tsN B n).getD i z0T) := h5 i (by omega)
      rw [e1] at e3
      rcases hX with ⟨_, ⟨y, f1, f2, f3, f4⟩ | ⟨f1, f2, f3, f4⟩ | ⟨f1, f2, f3, f4⟩⟩
      · rw [e1] at f1
        obtain ⟨q1, q2⟩ := List.cons.inj f1
        rw [q1] at e2
        exact absurd e2 f2
      · exact ⟨c, by rw [f4, List.take_of_length_le (by rw [e1]; exact e3)], by rw [e1]; exact e3, f2⟩
      · have := f2 x (by rw [e1]; simp)
        exfalso
        have q1 := e2.1
        have q2 := this.2
        omega
    have tkD : ∀ i, i ≤ cN B n → kN B n i = 2 → (L1 9 i).toInt32 = vN B n i ∧ 0 ≤ vN B n i ∧ vN B n i ≤ 9999 := fun i hi hk => by
      unfold cN at hi
      unfold kN at hk
      by_cases c : i < (tsN B n).length
      case neg =>
        rw [if_neg c] at hk
        exact absurd hk (by decide)
      rw [if_pos c] at hk
      obtain ⟨x, l, e1, e2, e3⟩ := (kT_f _).2.2 hk
      have hX : tkX M1 L1 i ((tsN B n).getD i z0T) := h5 i (by omega)
      unfold vN
      rw [if_pos c]
      rw [e1] at e3
      rcases hX with ⟨_, ⟨y, f1, f2, f3, f4⟩ | ⟨f1, f2, f3, f4⟩ | ⟨f1, f2, f3, f4⟩⟩
      · rw [e1] at f1
        obtain ⟨q1, q2⟩ := List.cons.inj f1
        rw [q1] at e2
        exact absurd e2 f3
      · have := f2 x (by rw [e1]; simp)
        exfalso
        have q1 := this.1
        have q2 := e2.2
        omega
      · rw [e1] at f2 f4 ⊢
        have tk : (x :: l).take 4 = x :: l := List.take_of_length_le e3
        obtain ⟨d1, d2⟩ := d10_4 e3 f2
        unfold vT
        dsimp only
        rw [if_pos e2, f4, tk, d1]
        exact ⟨rfl, nI_pos' (by omega), by rw [nI_lit 9999]; exact nI_le (by omega) (by omega)⟩
    refine zT_some ⟨⟨by unfold cN; omega, fun i hi => ⟨kN_kd i, ?_, ?_, fun hk => (tkD i hi hk).1⟩⟩, fun i j hi hj ki kj => ?_, (g0.tr a3).mo (fun b k q => by unfold sfA at q; omega), h7, fun i hi hk => (tkD i hi hk).2⟩
    · unfold cN at hi
      unfold kN
      by_cases c : i < (tsN B n).length
      · rw [if_pos c]
        exact (a1 i c (by omega)).1
      · rw [if_neg c]
        have hl : i = (tsN B n).length := by omega
        rw [hl]
        exact (a2 (by omega)).1
    · unfold cN at hi
      unfold pN
      by_cases c : i < (tsN B n).length
      · rw [if_pos c]
        exact (a1 i c (by omega)).2
      · rw [if_neg c]
        have hl : i = (tsN B n).length := by omega
        rw [hl]
        exact (a2 (by omega)).2
    · obtain ⟨_, b1, b2, b3⟩ := tkL i hi ki
      obtain ⟨_, c1, c2, c3⟩ := tkL j hj kj
      dsimp only
      rw [b1, c1, e32_i b2 c2 b3 c3]
      unfold eN
      rw [decide_eq_true_iff]
  rcases e with e | e
  · exact J e.1 e.2 he
  · exact J e.1 e.2 he
end CLS

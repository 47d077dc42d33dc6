/-! ROWS BY NUMBER: digits, the next row of a box, what is gathered */ -/
def dig (B k i : Nat) : Nat := k / B ^ i % B
def valF (B : Nat) (lo : Nat → Nat) : Nat → Nat
  | 0 => 0
  | j + 1 => valF B lo j + lo j * B ^ j
theorem valF_lt {B : Nat} {lo : Nat → Nat} : ∀ j, (∀ i, i < j → lo i < B) → valF B lo j < B ^ j
  | 0, _ => by simp [valF]
  | j + 1, h => by
    have ih := valF_lt j (fun i hi => h i (by omega))
    have h1 : (lo j + 1) * B ^ j ≤ B * B ^ j := Nat.mul_le_mul_right _ (h j (by omega))
    rw [Nat.succ_mul] at h1
    show valF B lo j + lo j * B ^ j < B ^ (j + 1)
    rw [Nat.pow_succ, Nat.mul_comm (B ^ j) B]
    generalize B * B ^ j = X at *
    generalize lo j * B ^ j = Y at *
    omega
theorem valF_dig {B k : Nat} : ∀ j, valF B (dig B k) j = k % B ^ j
  | 0 => by simp [valF, Nat.mod_one]
  | j + 1 => by
    show valF B (dig B k) j + dig B k j * B ^ j = _
    rw [valF_dig j, Nat.pow_succ, Nat.mod_mul]
    unfold dig
    rw [Nat.mul_comm]
theorem valF_mono {B : Nat} {lo d : Nat → Nat} : ∀ j, (∀ i, i < j → lo i ≤ d i) → valF B lo j ≤ valF B d j
  | 0, _ => Nat.le_refl _
  | j + 1, h => by
    have ih := valF_mono (B := B) j (fun i hi => h i (by omega))
    have h1 : lo j * B ^ j ≤ d j * B ^ j := Nat.mul_le_mul_right _ (h j (by omega))
    show valF B lo j + lo j * B ^ j ≤ valF B d j + d j * B ^ j
    omega
theorem valF_congr {B : Nat} {lo d : Nat → Nat} : ∀ j, (∀ i, i < j → lo i = d i) → valF B lo j = valF B d j
  | 0, _ => rfl
  | j + 1, h => by
    show valF B lo j + lo j * B ^ j = valF B d j + d j * B ^ j
    rw [valF_congr j (fun i hi => h i (by omega)), h j (by omega)]
theorem valF_full {B : Nat} (hB : 0 < B) : ∀ j, valF B (fun _ => B - 1) j + 1 = B ^ j
  | 0 => by simp [valF]
  | j + 1 => by
    have ih := valF_full hB j
    show valF B (fun _ => B - 1) j + (B - 1) * B ^ j + 1 = B ^ (j + 1)
    have e : B ^ (j + 1) = (B - 1) * B ^ j + B ^ j := by
      rw [Nat.pow_succ, Nat.mul_comm]
      conv => lhs; rw [show B = (B - 1) + 1 by omega]
      rw [Nat.succ_mul]
      rw [show B - 1 + 1 = B by omega]
    rw [e]
    omega
theorem dig_lt {B k i : Nat} (hB : 0 < B) : dig B k i < B := Nat.mod_lt _ hB
theorem top_div {B r j c : Nat} (hr : r < B ^ j) : (r + B ^ j * c) / B ^ j = c := by
  have : 0 < B ^ j := by omega
  rw [Nat.add_mul_div_left _ _ this, Nat.div_eq_of_lt hr, Nat.zero_add]
theorem dig_hi {B r j c i : Nat} (hr : r < B ^ j) (hi : j ≤ i) : dig B (r + B ^ j * c) i = dig B c (i - j) := by
  unfold dig
  have e : B ^ i = B ^ j * B ^ (i - j) := by rw [← Nat.pow_add, show j + (i - j) = i by omega]
  rw [e, ← Nat.div_div_eq_div_mul, top_div hr]
theorem dig_lo {B : Nat} {lo : Nat → Nat} : ∀ (j c i : Nat), (∀ i, i < j → lo i < B) → i < j → dig B (valF B lo j + B ^ j * c) i = lo i
  | 0, _, _, _, h => absurd h (by omega)
  | j + 1, c, i, h, hi => by
    have e : valF B lo (j + 1) + B ^ (j + 1) * c = valF B lo j + B ^ j * (lo j + B * c) := by
      show valF B lo j + lo j * B ^ j + B ^ (j + 1) * c = _
      rw [Nat.pow_succ, Nat.mul_add, Nat.mul_comm (lo j), Nat.mul_assoc]
      omega
    rw [e]
    by_cases q : i < j
    · exact dig_lo j _ i (fun i hi => h i (by omega)) q
    · have hij : i = j := by omega
      subst hij
      rw [dig_hi (valF_lt i (fun k hk => h k (by omega))) (Nat.le_refl _), Nat.sub_self]
      unfold dig
      rw [Nat.pow_zero, Nat.div_one, Nat.add_mul_mod_self_left, Nat.mod_eq_of_lt (h i (by omega))]
/-- the next row of the box behind row k, j being the first that is not full -/
def nextF (B : Nat) (lo : Nat → Nat) (k j : Nat) : Nat := valF B lo j + B ^ j * (k / B ^ j + 1)
theorem next_of {B k j n : Nat} {lo : Nat → Nat} (hB : 1 < B) (hlo : ∀ i, i < j → lo i < B) (hfull : ∀ i, i < j → dig B k i = B - 1) (hj : dig B k j + 1 < B) (hjn : j < n) (hk : k < B ^ n) :
    (k < nextF B lo k j ∧ nextF B lo k j < B ^ n) ∧ (∀ i, i < j → dig B (nextF B lo k j) i = lo i) ∧ dig B (nextF B lo k j) j = dig B k j + 1 ∧ (∀ i, j < i → dig B (nextF B lo k j) i = dig B k i) ∧ ∀ m, k < m → m < nextF B lo k j → ∃ i, i < j ∧ dig B m i < lo i := by
  have hL := valF_lt (B := B) j hlo
  have p0 : 0 < B ^ j := by omega
  have low : k % B ^ j + 1 = B ^ j := by
    rw [← valF_dig, valF_congr j hfull]
    exact valF_full (by omega) j
  have hk1 : k + 1 = B ^ j * (k / B ^ j + 1) := by
    have := Nat.mod_add_div k (B ^ j)
    rw [Nat.mul_add, Nat.mul_one]
    omega
  have hH : (k / B ^ j + 1) % B = k / B ^ j % B + 1 := by
    have e := Nat.mod_add_div (k / B ^ j) B
    have : k / B ^ j + 1 = (k / B ^ j % B + 1) + B * (k / B ^ j / B) := by omega
    rw [this, Nat.add_mul_mod_self_left]
    exact Nat.mod_eq_of_lt hj
  have hH2 : (k / B ^ j + 1) / B = k / B ^ j / B := by
    have e := Nat.mod_add_div (k / B ^ j) B
    have : k / B ^ j + 1 = (k / B ^ j % B + 1) + B * (k / B ^ j / B) := by omega
    conv => lhs; rw [this]
    rw [Nat.add_mul_div_left _ _ (by omega : 0 < B), Nat.div_eq_of_lt (show k / B ^ j % B + 1 < B from hj), Nat.zero_add]
  refine ⟨⟨?_, ?_⟩, ?_, ?_, ?_, ?_⟩
  · unfold nextF
    rw [← hk1]
    omega
  · unfold nextF
    have e : B ^ n = B ^ j * B ^ (n - j) := by rw [← Nat.pow_add, show j + (n - j) = n by omega]
    have h1 : k / B ^ j < B ^ (n - j) := by
      rw [Nat.div_lt_iff_lt_mul p0, Nat.mul_comm, ← e]
      exact hk
    have h2 : k / B ^ j + 1 ≠ B ^ (n - j) := by
      intro q
      have : B ^ (n - j) % B = 0 := by
        obtain ⟨m, hm⟩ : ∃ m, n - j = m + 1 := ⟨n - j - 1, by omega⟩
        rw [hm, Nat.pow_succ, Nat.mul_mod_left]
      rw [← q, hH] at this
      omega
    have h3 : B ^ j * (k / B ^ j + 1 + 1) ≤ B ^ j * B ^ (n - j) := Nat.mul_le_mul_left _ (by omega)
    rw [Nat.mul_add, Nat.mul_one] at h3
    rw [e]
    omega
  · intro i hi
    exact dig_lo j _ i hlo hi
  · unfold nextF
    rw [dig_hi hL (Nat.le_refl _), Nat.sub_self]
    unfold dig
    rw [Nat.pow_zero, Nat.div_one, hH]
  · intro i hi
    unfold nextF
    rw [dig_hi hL (by omega)]
    unfold dig
    obtain ⟨m, hm⟩ : ∃ m, i - j = m + 1 := ⟨i - j - 1, by omega⟩
    have e : B ^ i = B ^ j * B ^ (i - j) := by rw [← Nat.pow_add, show j + (i - j) = i by omega]
    rw [e, ← Nat.div_div_eq_div_mul, hm, Nat.pow_succ, Nat.mul_comm, ← Nat.div_div_eq_div_mul, hH2, Nat.div_div_eq_div_mul]
  · intro m h1 h2
    unfold nextF at h2
    rcases Classical.em (∃ i, i < j ∧ dig B m i < lo i) with q | q
    · exact q
    · exfalso
      have all : ∀ i, i < j → lo i ≤ dig B m i := fun i hi => by
        rcases Nat.lt_or_ge (dig B m i) (lo i) with c | c
        · exact absurd ⟨i, hi, c⟩ q
        · exact c
      have v := valF_mono (B := B) j all
      rw [valF_dig] at v
      have e := Nat.mod_add_div m (B ^ j)
      have hm : m / B ^ j = k / B ^ j + 1 := by
        refine Nat.le_antisymm ?_ ?_
        · have : m < B ^ j * (k / B ^ j + 1 + 1) := by rw [Nat.mul_add _ (k / B ^ j + 1), Nat.mul_one]; omega
          have := (Nat.div_lt_iff_lt_mul p0).2 (by rw [Nat.mul_comm]; exact this)
          omega
        · rw [Nat.le_div_iff_mul_le p0, Nat.mul_comm]
          omega
      rw [hm] at e
      omega
theorem first_box {B m n : Nat} {lo : Nat → Nat} (hm : m < B ^ n) (h : m < valF B lo n) : ∃ i, i < n ∧ dig B m i < lo i := by
  rcases Classical.em (∃ i, i < n ∧ dig B m i < lo i) with q | q
  · exact q
  · exfalso
    have all : ∀ i, i < n → lo i ≤ dig B m i := fun i hi => by
      rcases Nat.lt_or_ge (dig B m i) (lo i) with c | c
      · exact absurd ⟨i, hi, c⟩ q
      · exact c
    have v := valF_mono (B := B) n all
    rw [valF_dig, Nat.mod_eq_of_lt hm] at v
    omega
theorem full_last {B k n : Nat} (hB : 0 < B) (hk : k < B ^ n) (h : ∀ i, i < n → dig B k i = B - 1) : k + 1 = B ^ n := by
  have : valF B (dig B k) n = k := by rw [valF_dig, Nat.mod_eq_of_lt hk]
  rw [← this, valF_congr n h]
  exact valF_full hB n
/-- how many rows below k are so, the least and the greatest d of them -/
def aggF (P : Nat → Bool) (d : Nat → Nat) (mi : Nat) : Nat → Nat × Nat × Nat
  | 0 => (0, mi, 0)
  | k + 1 => if P k = true then ((aggF P d mi k).1 + 1, if d k < (aggF P d mi k).2.1 then d k else (aggF P d mi k).2.1, if (aggF P d mi k).2.2 < d k then d k else (aggF P d mi k).2.2) else aggF P d mi k
theorem aggF_skip {P : Nat → Bool} {d : Nat → Nat} {mi a : Nat} : ∀ b, a ≤ b → (∀ k, a ≤ k → k < b → P k = false) → aggF P d mi b = aggF P d mi a
  | 0, h, _ => by rw [show a = 0 by omega]
  | b + 1, h, hp => by
    by_cases e : a = b + 1
    · rw [e]
    · have ih := aggF_skip (P := P) (d := d) (mi := mi) b (by omega) (fun k h1 h2 => hp k h1 (by omega))
      show (if P b = true then _ else aggF P d mi b) = _
      rw [if_neg (by rw [hp b (by omega) (by omega)]; decide), ih]
theorem aggF_1 {P : Nat → Bool} {d d' : Nat → Nat} {mi mi' : Nat} : ∀ k, (aggF P d mi k).1 = (aggF P d' mi' k).1 ∧ (aggF P d mi k).1 ≤ k
  | 0 => ⟨rfl, Nat.le_refl _⟩
  | k + 1 => by
    obtain ⟨a, b⟩ := aggF_1 (P := P) (d := d) (d' := d') (mi := mi) (mi' := mi') k
    unfold aggF
    split
    · exact ⟨by show _ + 1 = _ + 1; rw [a], by show _ + 1 ≤ _; omega⟩
    · exact ⟨a, by omega⟩
theorem aggF_congr {P P1 : Nat → Bool} {d d1 : Nat → Nat} {mi : Nat} : ∀ k, (∀ j, j < k → P j = P1 j ∧ d j = d1 j) → aggF P d mi k = aggF P1 d1 mi k
  | 0, _ => rfl
  | k + 1, h => by
    unfold aggF
    rw [aggF_congr k (fun j hj => h j (by omega)), (h k (by omega)).1, (h k (by omega)).2]
/-- bounds, and where the least starts is nothing once there is one -/
theorem aggF_b {P : Nat → Bool} {d : Nat → Nat} {mi mi' t : Nat} (hd : ∀ k, d k ≤ t) (h1 : t ≤ mi) (h2 : t ≤ mi') : ∀ k, ((aggF P d mi k).1 = 0 ∧ (aggF P d mi k).2.1 = mi ∧ (aggF P d mi' k).2.1 = mi' ∨ 0 < (aggF P d mi k).1 ∧ (aggF P d mi k).2.1 = (aggF P d mi' k).2.1 ∧ (aggF P d mi k).2.1 ≤ t) ∧ (aggF P d mi k).2.2 = (aggF P d mi' k).2.2 ∧ (aggF P d mi k).2.2 ≤ t
  | 0 => ⟨Or.inl ⟨rfl, rfl, rfl⟩, rfl, Nat.zero_le _⟩
  | k + 1 => by
    obtain ⟨a, b, c⟩ := aggF_b (P := P) hd h1 h2 k
    have dk := hd k
    unfold aggF
    split
    · refine ⟨Or.inr ⟨by show 0 < _ + 1; omega, ?_, ?_⟩, ?_, ?_⟩
      · show (if _ then _ else _) = (if _ then _ else _)
        rcases a with ⟨_, a1, a2⟩ | ⟨_, a1, a2⟩
        · rw [a1, a2]
          split <;> split <;> omega
        · rw [a1]
      · show (if _ then _ else _) ≤ t
        rcases a with ⟨_, a1, a2⟩ | ⟨_, a1, a2⟩
        · split <;> omega
        · split <;> omega
      · show (if _ then _ else _) = (if _ then _ else _)
        rw [b]
      · show (if _ then _ else _) ≤ t
        split <;> omega
    · exact ⟨a, b, c⟩

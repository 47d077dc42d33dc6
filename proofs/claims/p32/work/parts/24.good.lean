/-! GOOD ROWS stay good: moved, hidden, built, burnt, joined -/
theorem zGd.move {n T S : Nat} {w : Nat → Int32} (h : zGd n T S w) {k o d e : Nat} (hk : k < n) (ho : o < n) (hs : shF w k = nI e) (he : e < 2147483648) (hT : T < 2147483648) (hd : d ≤ e) : zGd n T S (moveF w k o (nI d)) := by
  obtain ⟨h0, h1, ⟨s, hs2, es⟩, p, q, pot, h3, h4, h5⟩ := h
  obtain ⟨a, b, c⟩ := h3 k hk
  have hle := sumN_le (p := p) n k hk
  have e1 : e = p k - q k := by
    have : nI e = nI (p k - q k) := by rw [← hs]; unfold shF; rw [a, b, nI_sub c]
    exact nI_inj he (by omega) this
  have s1 := sumN_upd (p := p) (v := p k - d) n k hk
  have s2 := sumN_upd (p := updN p k (p k - d)) (v := updN p k (p k - d) o + d) n o ho
  unfold moveF
  refine ⟨h0, by rw [upd_n (by omega), upd_n (by omega)]; exact h1, ⟨s, hs2, by rw [upd_n (by omega), upd_n (by omega)]; exact es⟩, updN (updN p k (p k - d)) o (updN p k (p k - d) o + d), q, pot, ?_, by rw [upd_n (by omega), upd_n (by omega)]; exact h4, by omega⟩
  have first : ∀ j, j < n → upd w k (w k - nI d) j = nI (updN p k (p k - d) j) ∧ w (10 + j) = nI (q j) ∧ q j ≤ updN p k (p k - d) j := fun j hj => by
    obtain ⟨a2, b2, c2⟩ := h3 j hj
    unfold updN
    by_cases e : j = k
    · subst e
      rw [if_pos rfl, upd_s, a, nI_sub (by omega)]
      exact ⟨rfl, b, by omega⟩
    · rw [if_neg e, upd_n e]
      exact ⟨a2, b2, c2⟩
  intro j hj
  obtain ⟨f1, f2, f3⟩ := first j hj
  rw [upd_n (j := 10 + j) (by omega), upd_n (j := 10 + j) (by omega)]
  by_cases e : j = o
  · subst e
    rw [upd_s, f1]
    have : updN (updN p k (p k - d)) j (updN p k (p k - d) j + d) j = updN p k (p k - d) j + d := if_pos rfl
    rw [this, nI_add]
    exact ⟨rfl, f2, by omega⟩
  · have : updN (updN p k (p k - d)) o (updN p k (p k - d) o + d) j = updN p k (p k - d) j := if_neg e
    rw [this, upd_n e]
    exact ⟨f1, f2, f3⟩
theorem zGd.hide {n T S : Nat} {w : Nat → Int32} (h : zGd n T S w) {k d e : Nat} (hk : k < n) (he : w k = nI e) (hd : d ≤ e) (he2 : e < 2147483648) (hT : T < 2147483648) : zGd n T S (upd w (10 + k) (nI d)) := by
  obtain ⟨h0, h1, ⟨s, hs2, es⟩, p, q, pot, h3, h4, h5⟩ := h
  refine ⟨h0, by rw [upd_n (by omega)]; exact h1, ⟨s, hs2, by rw [upd_n (by omega)]; exact es⟩, p, updN q k d, pot, ?_, by rw [upd_n (by omega)]; exact h4, h5⟩
  intro j hj
  obtain ⟨a, b, c⟩ := h3 j hj
  have hle := sumN_le (p := p) n j hj
  unfold updN
  rw [upd_n (by omega)]
  by_cases e2 : j = k
  · subst e2
    rw [if_pos rfl, upd_s]
    have : e = p j := nI_inj he2 (by omega) (by rw [← he, a])
    exact ⟨a, rfl, by omega⟩
  · rw [if_neg e2, upd_n (by omega)]
    exact ⟨a, b, c⟩
theorem zGd.grab {n T S : Nat} {w : Nat → Int32} (h : zGd n T S w) {k : Nat} (hk : k < n) : zGd n T S (upd (upd w k (w k + w 41)) 41 0) := by
  obtain ⟨h0, h1, ⟨s, hs2, es⟩, p, q, pot, h3, h4, h5⟩ := h
  refine ⟨h0, by rw [upd_n (by omega), upd_n (by omega)]; exact h1, ⟨s, hs2, by rw [upd_n (by omega), upd_n (by omega)]; exact es⟩, updN p k (p k + pot), q, 0, ?_, by rw [upd_s]; rfl, ?_⟩
  · intro j hj
    obtain ⟨a, b, c⟩ := h3 j hj
    rw [upd_n (by omega), upd_n (j := 10 + j) (by omega), upd_n (j := 10 + j) (by omega)]
    unfold updN
    by_cases e2 : j = k
    · subst e2
      rw [if_pos rfl, upd_s, a, h4, nI_add]
      exact ⟨rfl, b, by omega⟩
    · rw [if_neg e2, upd_n e2]
      exact ⟨a, b, c⟩
  · have := sumN_upd (p := p) (v := p k + pot) n k hk
    omega
def insN (p : Nat → Nat) (a d : Nat) : Nat → Nat := fun j => if j < a then p j else if j = a then d else p (j - 1)
theorem sumN_ins {p : Nat → Nat} {a d : Nat} : ∀ n, a ≤ n → sumN (insN p a d) (n + 1) = sumN p n + d
  | 0, h => by
    have : a = 0 := by omega
    subst this
    simp [sumN, insN]
  | n + 1, h => by
    by_cases e : a = n + 1
    · subst e
      have : sumN (insN p (n + 1) d) (n + 1) = sumN p (n + 1) := sumN_congr _ (fun k hk => by unfold insN; rw [if_pos hk])
      have e2 : insN p (n + 1) d (n + 1) = d := by unfold insN; rw [if_neg (by omega), if_pos rfl]
      show sumN (insN p (n + 1) d) (n + 1) + insN p (n + 1) d (n + 1) = _
      rw [this, e2]
    · have ih := sumN_ins (p := p) (a := a) (d := d) n (by omega)
      have e2 : insN p a d (n + 1) = p n := by unfold insN; rw [if_neg (by omega), if_neg (by omega)]; rfl
      show sumN (insN p a d) (n + 1) + insN p a d (n + 1) = _
      rw [ih, e2]
      show _ = sumN p n + p n + d
      omega
theorem zGd.build {n T S : Nat} {w : Nat → Int32} (h : zGd n T S w) {a d : Nat} (ha : a ≤ n) (hn : n < 10) (hd : d ≤ 9999) : zGd (n + 1) (T + 9999) S (buildF n a (nI d) w) := by
  obtain ⟨h0, h1, ⟨s, hs2, es⟩, p, q, pot, h3, h4, h5⟩ := h
  have hi : ∀ k, 40 < k → buildF n a (nI d) w k = w k := fun k hk => by unfold buildF; rw [if_neg (by omega), if_neg (by omega)]
  refine ⟨by omega, ?_, ⟨s, hs2, by rw [hi 43 (by omega)]; exact es⟩, insN p a d, insN q a 0, pot, ?_, by rw [hi 41 (by omega)]; exact h4, ?_⟩
  · unfold buildF
    rw [if_pos rfl, h1, nI_1]
  · intro j hj
    have b0 := buildF_at (n := n) (a := a) (x := nI d) (w := w) (p := 0) (j := j) (by omega) (by omega)
    have b1 := buildF_at (n := n) (a := a) (x := nI d) (w := w) (p := 1) (j := j) (by omega) (by omega)
    rw [show 10 * 0 + j = j by omega] at b0
    rw [show 10 * 1 + j = 10 + j by omega] at b1
    rw [b0, b1]
    unfold insN
    by_cases e1 : j < a
    · rw [if_pos e1, if_pos e1, if_pos e1, if_pos e1]
      exact h3 j (by omega)
    · rw [if_neg e1, if_neg e1, if_neg e1, if_neg e1]
      by_cases e2 : j = a
      · rw [if_pos e2, if_pos e2, if_pos e2, if_pos e2, if_pos rfl, if_neg (by omega)]
        exact ⟨rfl, rfl, by omega⟩
      · rw [if_neg e2, if_neg e2, if_neg e2, if_neg e2, if_pos (by omega), if_pos (by omega), show 10 + j - 1 = 10 + (j - 1) by omega]
        exact h3 (j - 1) (by omega)
  · have := sumN_ins (p := p) (a := a) (d := d) n ha
    omega
def delN (p : Nat → Nat) (a : Nat) : Nat → Nat := fun j => if j < a then p j else p (j + 1)
theorem sumN_del {p : Nat → Nat} {a : Nat} : ∀ n, a ≤ n → sumN (delN p a) n + p a = sumN p (n + 1)
  | 0, h => by
    have : a = 0 := by omega
    subst this
    simp [sumN]
  | n + 1, h => by
    by_cases e : a = n + 1
    · subst e
      have : sumN (delN p (n + 1)) (n + 1) = sumN p (n + 1) := sumN_congr _ (fun k hk => by unfold delN; rw [if_pos hk])
      rw [this]
      rfl
    · have ih := sumN_del (p := p) (a := a) n (by omega)
      have e2 : delN p a n = p (n + 1) := by unfold delN; rw [if_neg (by omega)]
      show sumN (delN p a) n + delN p a n + p a = sumN p (n + 1) + p (n + 1)
      omega
theorem zGd.goes {n T S : Nat} {w : Nat → Int32} (h : zGd n T S w) {a : Nat} (ha : a < n) : zGd (n - 1) T S (goesF a w) := by
  obtain ⟨h0, h1, ⟨s, hs2, es⟩, p, q, pot, h3, h4, h5⟩ := h
  have hi : ∀ k, 40 < k → goesF a w k = w k := fun k hk => by unfold goesF; rw [if_neg (by omega), if_neg (by omega)]
  refine ⟨by omega, ?_, ⟨s, hs2, by rw [hi 43 (by omega)]; exact es⟩, delN p a, delN q a, pot, ?_, by rw [hi 41 (by omega)]; exact h4, ?_⟩
  · unfold goesF
    rw [if_pos rfl, h1, nI_sub1 (by omega)]
  · intro j hj
    have b0 := goesF_at (a := a) (w := w) (p := 0) (j := j) (by omega) (by omega)
    have b1 := goesF_at (a := a) (w := w) (p := 1) (j := j) (by omega) (by omega)
    rw [show 10 * 0 + j = j by omega] at b0
    rw [show 10 * 1 + j = 10 + j by omega] at b1
    rw [b0, b1]
    unfold delN
    by_cases e1 : j < a
    · rw [if_pos e1, if_pos e1, if_pos e1, if_pos e1]
      exact h3 j (by omega)
    · rw [if_neg e1, if_neg e1, if_neg e1, if_neg e1, if_pos (by omega), if_pos (by omega)]
      exact h3 (j + 1) (by omega)
  · have := sumN_del (p := p) (a := a) (n - 1) (by omega)
    rw [show n - 1 + 1 = n by omega] at this
    omega
theorem zGd.join {n T S : Nat} {w : Nat → Int32} (h : zGd n T S w) {a g : Nat} (ha : a < n) (hg : g < n) (hne : a ≠ g) : zGd (n - 1) T S (goesF g (joinF a g w)) := by
  obtain ⟨h0, h1, ⟨s, hs2, es⟩, p, q, pot, h3, h4, h5⟩ := h
  have hi : ∀ k, 40 ≤ k → goesF g (joinF a g w) k = if k = 40 then w k - 1 else w k := fun k hk => by
    unfold goesF
    have hj : ∀ k, 40 ≤ k → joinF a g w k = w k := fun k hk => by unfold joinF; rw [if_neg (by omega)]
    by_cases e : k = 40
    · subst e
      rw [if_pos rfl, if_pos rfl, hj 40 (by omega)]
    · rw [if_neg e, if_neg e, if_neg (by omega), hj k hk]
  refine ⟨by omega, by rw [hi 40 (by omega), if_pos rfl, h1, nI_sub1 (by omega)], ⟨s, hs2, by rw [hi 43 (by omega), if_neg (by omega)]; exact es⟩, delN (updN p a (p a + p g)) g, delN (updN q a (q a + q g)) g, pot, ?_, by rw [hi 41 (by omega), if_neg (by omega)]; exact h4, ?_⟩
  · have first : ∀ j, j < n → joinF a g w j = nI (updN p a (p a + p g) j) ∧ joinF a g w (10 + j) = nI (updN q a (q a + q g) j) ∧ updN q a (q a + q g) j ≤ updN p a (p a + p g) j := fun j hj => by
      have b0 := joinF_at (a := a) (g := g) (w := w) (p := 0) (j := j) (by omega) (by omega)
      have b1 := joinF_at (a := a) (g := g) (w := w) (p := 1) (j := j) (by omega) (by omega)
      rw [show 10 * 0 + j = j by omega, show 10 * 0 + g = g by omega] at b0
      rw [show 10 * 1 + j = 10 + j by omega, show 10 * 1 + g = 10 + g by omega] at b1
      rw [b0, b1]
      obtain ⟨x1, x2, x3⟩ := h3 j hj
      obtain ⟨y1, y2, y3⟩ := h3 g hg
      unfold updN
      by_cases e : j = a
      · subst e
        rw [if_pos rfl, if_pos rfl, if_pos rfl, if_pos rfl, x1, x2, y1, y2, nI_add, nI_add]
        exact ⟨rfl, rfl, by omega⟩
      · rw [if_neg e, if_neg e, if_neg e, if_neg e]
        exact ⟨x1, x2, x3⟩
    intro j hj
    have b0 := goesF_at (a := g) (w := joinF a g w) (p := 0) (j := j) (by omega) (by omega)
    have b1 := goesF_at (a := g) (w := joinF a g w) (p := 1) (j := j) (by omega) (by omega)
    rw [show 10 * 0 + j = j by omega] at b0
    rw [show 10 * 1 + j = 10 + j by omega] at b1
    rw [b0, b1]
    unfold delN
    by_cases e1 : j < g
    · rw [if_pos e1, if_pos e1, if_pos e1, if_pos e1]
      exact first j (by omega)
    · rw [if_neg e1, if_neg e1, if_neg e1, if_neg e1, if_pos (by omega), if_pos (by omega)]
      exact first (j + 1) (by omega)
  · have s1 := sumN_upd (p := p) (v := p a + p g) n a ha
    have s2 := sumN_del (p := updN p a (p a + p g)) (a := g) (n - 1) (by omega)
    rw [show n - 1 + 1 = n by omega] at s2
    have e : updN p a (p a + p g) g = p g := if_neg (Ne.symm hne)
    omega

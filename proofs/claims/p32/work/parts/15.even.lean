/-! GOOD ROWS: nothing hidden beyond a purse, and a bound on all money -/
def sumN (p : Nat → Nat) : Nat → Nat
  | 0 => 0
  | k + 1 => sumN p k + p k
def updN (p : Nat → Nat) (h v : Nat) : Nat → Nat := fun j => if j = h then v else p j
theorem sumN_le {p : Nat → Nat} : ∀ (n h : Nat), h < n → p h ≤ sumN p n
  | 0, _, q => absurd q (by omega)
  | n + 1, h, q => by
    by_cases e : h = n
    · subst e; unfold sumN; omega
    · have := sumN_le (p := p) n h (by omega); unfold sumN; omega
theorem sumN_congr {p q : Nat → Nat} : ∀ (n : Nat), (∀ h, h < n → p h = q h) → sumN p n = sumN q n
  | 0, _ => rfl
  | n + 1, h => by unfold sumN; rw [sumN_congr n (fun k hk => h k (by omega)), h n (by omega)]
theorem sumN_upd {p : Nat → Nat} {v : Nat} : ∀ (n h : Nat), h < n → sumN (updN p h v) n + p h = sumN p n + v
  | 0, _, q => absurd q (by omega)
  | n + 1, h, q => by
    by_cases e : h = n
    · subst e
      have : sumN (updN p h v) h = sumN p h := sumN_congr h (fun k hk => by unfold updN; rw [if_neg (by omega)])
      have e2 : updN p h v h = v := by unfold updN; rw [if_pos rfl]
      unfold sumN
      rw [this, e2]
      omega
    · have := sumN_upd (p := p) (v := v) n h (by omega)
      have e2 : updN p h v n = p n := by unfold updN; rw [if_neg (by omega)]
      unfold sumN
      rw [e2]
      omega
theorem nI_sub {a b : Nat} (h : b ≤ a) : nI a - nI b = nI (a - b) := by
  have : nI (a - b) + nI b = nI a := by rw [nI_add, Nat.sub_add_cancel h]
  rw [← this, Int32.add_sub_cancel]
theorem absF_nI {a b : Nat} (ha : a < 2 ^ 31) (hb : b < 2 ^ 31) : absF (nI a - nI b) = nI (if b ≤ a then a - b else b - a) := by
  unfold absF
  by_cases h : b ≤ a
  · rw [if_pos h, nI_sub h, if_pos (nI_pos' (by omega))]
  · rw [if_neg h]
    have e : nI a - nI b = -(nI (b - a)) := by rw [← nI_sub (by omega), Int32.neg_sub]
    rw [e]
    have n0 : ¬ 0 ≤ -(nI (b - a)) := by
      intro q
      have h1 : nI a - nI b = -(nI (b - a)) := e
      obtain ⟨j, hj, hj2⟩ := nn_of q
      have h2 : nI a = nI (j + b) := by
        rw [← nI_add, ← hj2, ← e, Int32.sub_add_cancel]
      have h3 := congrArg Int32.toInt h2
      simp only [nI, Int32.toInt_ofNat'] at h3
      simp only [Int.bmod] at h3
      have hz : Int32.size = 4294967296 := rfl
      rw [hz] at h3
      omega
    rw [if_neg n0, Int32.neg_neg]
def zGd (n T S : Nat) (w : Nat → Int32) : Prop := n ≤ 10 ∧ w 40 = nI n ∧ (∃ s, s ≤ S ∧ w 43 = nI s) ∧ ∃ (p q : Nat → Nat) (pot : Nat), (∀ h, h < n → w h = nI (p h) ∧ w (10 + h) = nI (q h) ∧ q h ≤ p h) ∧ w 41 = nI pot ∧ sumN p n + pot ≤ T
theorem zGd.sh {n T S : Nat} {w : Nat → Int32} (h : zGd n T S w) {k : Nat} (hk : k < n) : ∃ d, d ≤ T ∧ shF w k = nI d := by
  obtain ⟨_, _, _, p, q, pot, h1, h2, h3⟩ := h
  obtain ⟨a, b, c⟩ := h1 k hk
  have := sumN_le (p := p) n k hk
  exact ⟨p k - q k, by omega, by unfold shF; rw [a, b, nI_sub c]⟩
theorem zGd.gap {n T S : Nat} {w : Nat → Int32} (h : zGd n T S w) (hT : T < 2 ^ 31) {k : Nat} (hk : k < n) (st : Int32) : 0 ≤ gapF n st w k := by
  obtain ⟨a, ha, ea⟩ := h.sh (leftF_lt (street := st) hk)
  obtain ⟨b, hb, eb⟩ := h.sh (rightF_lt (street := st) hk)
  unfold gapF
  rw [ea, eb, absF_nI (by omega) (by omega)]
  exact nI_pos' (by split <;> omega)
theorem clampF_nI {m : Nat} (hm : m < 2 ^ 31) (x : Int32) : ∃ d, d ≤ m ∧ clampF (nI m) x = nI d := by
  unfold clampF
  by_cases h : nI m < x
  · rw [if_pos h]
    by_cases h0 : 0 < nI m
    · rw [if_pos h0]; exact ⟨m, Nat.le_refl _, rfl⟩
    · rw [if_neg h0]; exact ⟨0, Nat.zero_le _, rfl⟩
  · rw [if_neg h]
    by_cases h0 : 0 < x
    · rw [if_pos h0]
      obtain ⟨j, hj, rfl⟩ := nn_of (Int32.le_of_lt h0)
      refine ⟨j, ?_, rfl⟩
      rcases Nat.lt_or_ge m j with q | q
      · exact absurd (nI_lt q hj) h
      · exact q
    · rw [if_neg h0]; exact ⟨0, Nat.zero_le _, rfl⟩
def wantF (n : Nat) (ru : zRu) (w : Nat → Int32) (h : Nat) : Int32 := tellF n ru w 0 h (shF w h)
def earnF (n : Nat) (ru : zRu) (w : Nat → Int32) (h : Nat) : Int32 := tellF n ru w 1 h 999
theorem dflt_0 {n : Nat} {ru : zRu} {w : Nat → Int32} {h : Nat} {most : Int32} (hm : 0 ≤ most) (hg : 0 ≤ gapF n (ruS ru) w h) (e : ruK ru 0 = dflt 0) : (if gapF n (ruS ru) w h ≤ most then gapF n (ruS ru) w h else most) = tellF n ru w 0 h most := by
  unfold tellF
  rw [e, ← clampF_m hm]
  have : evP (vF n (ruS ru) (ruD ru) w h) (dflt 0) = gapF n (ruS ru) w h := rfl
  rw [this, if_pos hg]
theorem dflt_1 {n : Nat} {ru : zRu} {w : Nat → Int32} {h : Nat} (e : ruK ru 1 = dflt 1) : (if (0 : Int32) ≤ 999 then (0 : Int32) else 999) = tellF n ru w 1 h 999 := by
  unfold tellF
  rw [e]
  rfl
theorem wantF_nI {n T S : Nat} {w : Nat → Int32} {ru : zRu} (h : zGd n T S w) (hT : T < 2 ^ 31) {k : Nat} (hk : k < n) : ∃ d e, d ≤ e ∧ shF w k = nI e ∧ e ≤ T ∧ wantF n ru w k = nI d := by
  obtain ⟨e, he, ee⟩ := h.sh hk
  unfold wantF tellF
  rw [ee]
  obtain ⟨d, hd, ed⟩ := clampF_nI (m := e) (by omega) (evP (vF n (ruS ru) (ruD ru) w k) (ruK ru 0))
  exact ⟨d, e, hd, rfl, he, ed⟩
theorem earnF_nI {n : Nat} {w : Nat → Int32} {ru : zRu} {k : Nat} : ∃ d, d ≤ 999 ∧ earnF n ru w k = nI d := clampF_nI (m := 999) (by omega) _
/-- a wage -/
theorem zGd.earn {n T S : Nat} {w : Nat → Int32} (h : zGd n T S w) {k d : Nat} (hk : k < n) (hd : d ≤ 999) : zGd n (T + 999) S (upd w k (w k + nI d)) := by
  obtain ⟨h0, h1, ⟨s, hs, es⟩, p, q, pot, h3, h4, h5⟩ := h
  refine ⟨h0, by rw [upd_n (by omega)]; exact h1, ⟨s, hs, by rw [upd_n (by omega)]; exact es⟩, updN p k (p k + d), q, pot, ?_, by rw [upd_n (by omega)]; exact h4, ?_⟩
  · intro j hj
    obtain ⟨a, b, c⟩ := h3 j hj
    unfold updN
    by_cases e : j = k
    · subst e
      rw [if_pos rfl, upd_s, upd_n (by omega), a, nI_add]
      exact ⟨rfl, b, by omega⟩
    · rw [if_neg e, upd_n e, upd_n (by omega)]
      exact ⟨a, b, c⟩
  · have := sumN_upd (p := p) (v := p k + d) n k hk
    omega
/-- a payment -/
theorem zGd.pay {n T S : Nat} {w : Nat → Int32} (h : zGd n T S w) {k d e : Nat} (hk : k < n) (hs : shF w k = nI e) (he : e < 2 ^ 31) (hT : T < 2 ^ 31) (hd : d ≤ e) : zGd n T S (payF w k (nI d)) := by
  obtain ⟨h0, h1, ⟨s, hs2, es⟩, p, q, pot, h3, h4, h5⟩ := h
  obtain ⟨a, b, c⟩ := h3 k hk
  have hle := sumN_le (p := p) n k hk
  have e1 : e = p k - q k := by
    have : nI e = nI (p k - q k) := by rw [← hs]; unfold shF; rw [a, b, nI_sub c]
    exact nI_inj he (by omega) this
  unfold payF
  refine ⟨h0, by rw [upd_n (by omega), upd_n (by omega), upd_n (by omega), upd_n (by omega)]; exact h1, ⟨s, hs2, by rw [upd_n (by omega), upd_n (by omega), upd_n (by omega), upd_n (by omega)]; exact es⟩, updN p k (p k - d), q, pot + d, ?_, by rw [upd_n (by omega), upd_n (by omega), upd_s, h4, nI_add], ?_⟩
  · intro j hj
    obtain ⟨a2, b2, c2⟩ := h3 j hj
    rw [upd_n (by omega), upd_n (by omega), upd_n (by omega), upd_n (j := 10 + j) (by omega), upd_n (j := 10 + j) (by omega), upd_n (j := 10 + j) (by omega), upd_n (j := 10 + j) (by omega)]
    unfold updN
    by_cases e : j = k
    · subst e
      rw [if_pos rfl, upd_s, a, nI_sub (by omega)]
      exact ⟨rfl, b, by omega⟩
    · rw [if_neg e, upd_n e]
      exact ⟨a2, b2, c2⟩
  · have := sumN_upd (p := p) (v := p k - d) n k hk
    omega

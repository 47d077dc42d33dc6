/-! AN EVENING, as a function of rows -/
def earnS (n : Nat) (ru : zRu) (w : Nat → Int32) : Nat → Nat → Int32
  | 0 => w
  | k + 1 => upd (earnS n ru w k) k (earnS n ru w k k + earnF n ru (earnS n ru w k) k)
def onceS (n : Nat) (ru : zRu) (w : Nat → Int32) : Nat → Nat → Int32
  | 0 => w
  | k + 1 => payF (onceS n ru w k) k (wantF n ru w k)
def turnsS (n : Nat) (ru : zRu) (s : Nat) (w : Nat → Int32) : Nat → Nat → Int32
  | 0 => w
  | k + 1 => payF (turnsS n ru s w k) ((s + k) % n) (wantF n ru (turnsS n ru s w k) ((s + k) % n))
def payAllF (n : Nat) (ru : zRu) (turns : Int32) (s : Nat) (w : Nat → Int32) : Nat → Int32 := if turns = 0 then onceS n ru w n else turnsS n ru s w n
def endF (n : Nat) (how ev : Int32) (w : Nat → Int32) : Nat → Int32 := if upd w 42 (w 42 + 1) 42 - upd w 42 (w 42 + 1) 42 / ev * ev = 0 then sharesF n how (upd w 42 (w 42 + 1)) else upd w 42 (w 42 + 1)
def eveF (n : Nat) (how : Int32) (ru : zRu) (w : Nat → Int32) : Nat → Int32 := endF n how (ruE ru) (payAllF n ru (ruT ru) 0 (earnS n ru w n))
def evesF (n : Nat) (how : Int32) (ru : zRu) (w : Nat → Int32) : Nat → Nat → Int32
  | 0 => w
  | k + 1 => eveF n how ru (evesF n how ru w k)
theorem zGd.mo {n T S T1 S1 : Nat} {w : Nat → Int32} (h : zGd n T S w) (hT : T ≤ T1) (hS : S ≤ S1) : zGd n T1 S1 w := by
  obtain ⟨h0, h1, ⟨s, hs, es⟩, p, q, pot, h3, h4, h5⟩ := h
  exact ⟨h0, h1, ⟨s, by omega, es⟩, p, q, pot, h3, h4, by omega⟩
theorem zGd.GearnS {n T S : Nat} {w : Nat → Int32} {ru : zRu} (h : zGd n T S w) : ∀ k, k ≤ n → zGd n (T + 999 * k) S (earnS n ru w k)
  | 0, _ => h
  | k + 1, hk => by
    have ih := zGd.GearnS (ru := ru) h k (by omega)
    obtain ⟨d, hd, e⟩ := earnF_nI (n := n) (w := earnS n ru w k) (ru := ru) (k := k)
    have := ih.earn (k := k) (d := d) (by omega) hd
    unfold earnS
    rw [e]
    exact this.mo (by omega) (Nat.le_refl _)
theorem payF_n {w : Nat → Int32} {h j : Nat} {x : Int32} (h1 : j ≠ h) (h2 : j ≠ 41) (h3 : j ≠ 20 + h) (h4 : j ≠ 30 + h) : payF w h x j = w j := by
  unfold payF
  simp (disch := omega) only [upd_n]
theorem onceS_keep {n : Nat} {ru : zRu} {w : Nat → Int32} : ∀ k, k ≤ n → n ≤ 10 → ∀ j, (k ≤ j ∧ j < 10) ∨ (10 ≤ j ∧ j < 20) ∨ j = 40 → onceS n ru w k j = w j
  | 0, _, _, _, _ => rfl
  | k + 1, hk, hn, j, hj => by
    unfold onceS
    rw [payF_n (by omega) (by omega) (by omega) (by omega)]
    exact onceS_keep k (by omega) hn j (by omega)
theorem zGd.GonceS {n T S : Nat} {w : Nat → Int32} {ru : zRu} (h : zGd n T S w) (hT : T < 2 ^ 31) : ∀ k, k ≤ n → zGd n T S (onceS n ru w k)
  | 0, _ => h
  | k + 1, hk => by
    have ih := zGd.GonceS (ru := ru) h hT k (by omega)
    have hn := h.1
    obtain ⟨d, e, hd, he, hT2, ed⟩ := wantF_nI (ru := ru) h hT (k := k) (by omega)
    unfold onceS
    rw [ed]
    refine ih.pay (by omega) ?_ (by omega) hT hd
    rw [← he]
    unfold shF
    rw [onceS_keep k (by omega) hn k (by omega), onceS_keep k (by omega) hn (10 + k) (by omega)]
theorem zGd.GturnsS {n T S s : Nat} {w : Nat → Int32} {ru : zRu} (h : zGd n T S w) (hT : T < 2 ^ 31) : ∀ k, k ≤ n → zGd n T S (turnsS n ru s w k)
  | 0, _ => h
  | k + 1, hk => by
    have ih := zGd.GturnsS (ru := ru) (s := s) h hT k (by omega)
    have hm : (s + k) % n < n := Nat.mod_lt _ (by omega)
    obtain ⟨d, e, hd, he, hT2, ed⟩ := wantF_nI (ru := ru) ih hT hm
    unfold turnsS
    rw [ed]
    exact ih.pay hm he (by omega) hT hd
theorem zGd.payAll {n T S s : Nat} {w : Nat → Int32} {ru : zRu} {tu : Int32} (h : zGd n T S w) (hT : T < 2 ^ 31) : zGd n T S (payAllF n ru tu s w) := by
  unfold payAllF
  split
  · exact h.GonceS hT n (Nat.le_refl _)
  · exact h.GturnsS hT n (Nat.le_refl _)
theorem sumN_add {p : Nat → Nat} {x : Nat} : ∀ n, sumN (fun h => p h + x) n = sumN p n + n * x
  | 0 => by simp [sumN]
  | n + 1 => by
    unfold sumN
    rw [sumN_add n, Nat.succ_mul]
    omega
theorem toF_lt {n T S : Nat} {how : Int32} {w : Nat → Int32} (h : zGd n T S w) (hS : S < 2 ^ 31) (hn : 0 < n) : toF n how w < n := by
  obtain ⟨h0, h1, ⟨s, hs, es⟩, _⟩ := h
  unfold toF
  split
  · have := mostF_le w (n - 1)
    omega
  · rw [es, h1, pk_rem (by omega) hn (by omega), nI_clamp (Nat.lt_trans (Nat.mod_lt _ (by omega)) (by omega))]
    exact Nat.mod_lt _ hn
theorem zGd.shares {n T S : Nat} {how : Int32} {w : Nat → Int32} (h : zGd n T S w) (hT : T < 2 ^ 31) (hS : S < 2 ^ 31) : zGd n T (S + 1) (sharesF n how w) := by
  unfold sharesF
  by_cases hn : n = 0
  · rw [if_pos hn]
    exact h.mo (Nat.le_refl _) (by omega)
  rw [if_neg hn]
  have hto := toF_lt (how := how) h hS (by omega)
  obtain ⟨h0, h1, ⟨s, hs, es⟩, p, q, pot, h3, h4, h5⟩ := h
  by_cases hh : how = 0
  · rw [if_pos hh]
    have c : ∀ j, j ≠ 43 → j ≠ 41 → (j < 30 ∨ 40 ≤ j) → upd (zero30 (upd (addF n (w 41 / w 40) w) 41 (w 41 - w 41 / w 40 * w 40))) 43 (w 43 + 1) j = addF n (w 41 / w 40) w j := fun j q1 q2 q3 => by
      rw [upd_n q1]
      unfold zero30
      rw [if_neg (by omega), upd_n q2]
    have hdm := Nat.div_mul_le_self pot n
    refine ⟨h0, ?_, ⟨s + 1, by omega, by rw [upd_s, es, nI_1]⟩, fun h => p h + pot / n, q, pot - pot / n * n, ?_, ?_, ?_⟩
    · rw [c 40 (by omega) (by omega) (by omega)]
      unfold addF
      rw [if_neg (by omega)]
      exact h1
    · intro j hj
      obtain ⟨a, b, d⟩ := h3 j hj
      rw [c j (by omega) (by omega) (by omega), c (10 + j) (by omega) (by omega) (by omega)]
      unfold addF
      rw [if_pos hj, if_neg (by omega), a, h4, h1, pk_div (by omega) (by omega) (by omega), nI_add]
      exact ⟨rfl, b, Nat.le_trans d (Nat.le_add_right _ _)⟩
    · rw [upd_n (by omega)]
      unfold zero30
      rw [if_neg (by omega), upd_s, h4, h1, pk_div (by omega) (by omega) (by omega), pk_mul, pk_sub hdm]
    · rw [sumN_add, Nat.mul_comm n]
      omega
  · rw [if_neg hh]
    generalize toF n how w = t at hto
    have c : ∀ j, j ≠ 43 → j ≠ 41 → (j < 30 ∨ 40 ≤ j) → upd (zero30 (upd (upd w t (w t + w 41)) 41 0)) 43 (w 43 + 1) j = upd w t (w t + w 41) j := fun j q1 q2 q3 => by
      rw [upd_n q1]
      unfold zero30
      rw [if_neg (by omega), upd_n q2]
    refine ⟨h0, ?_, ⟨s + 1, by omega, by rw [upd_s, es, nI_1]⟩, updN p t (p t + pot), q, 0, ?_, ?_, ?_⟩
    · rw [c 40 (by omega) (by omega) (by omega), upd_n (by omega)]
      exact h1
    · intro j hj
      obtain ⟨a, b, d⟩ := h3 j hj
      rw [c j (by omega) (by omega) (by omega), c (10 + j) (by omega) (by omega) (by omega), upd_n (j := 10 + j) (by omega)]
      unfold updN
      by_cases e : j = t
      · subst e
        rw [if_pos rfl, upd_s, a, h4, nI_add]
        exact ⟨rfl, b, by omega⟩
      · rw [if_neg e, upd_n e]
        exact ⟨a, b, d⟩
    · rw [upd_n (by omega)]
      unfold zero30
      rw [if_neg (by omega), upd_s]
      rfl
    · have := sumN_upd (p := p) (v := p t + pot) n t hto
      omega
theorem zGd.clock {n T S : Nat} {w : Nat → Int32} (h : zGd n T S w) (x : Int32) : zGd n T S (upd w 42 x) := by
  obtain ⟨h0, h1, ⟨s, hs, es⟩, p, q, pot, h3, h4, h5⟩ := h
  refine ⟨h0, by rw [upd_n (by omega)]; exact h1, ⟨s, hs, by rw [upd_n (by omega)]; exact es⟩, p, q, pot, fun j hj => ?_, by rw [upd_n (by omega)]; exact h4, h5⟩
  rw [upd_n (by omega), upd_n (by omega)]
  exact h3 j hj
theorem zGd.ends {n T S : Nat} {how ev : Int32} {w : Nat → Int32} (h : zGd n T S w) (hT : T < 2 ^ 31) (hS : S < 2 ^ 31) : zGd n T (S + 1) (endF n how ev w) := by
  unfold endF
  split
  · exact (h.clock _).shares hT hS
  · exact (h.clock _).mo (Nat.le_refl _) (by omega)
theorem zGd.eve {n T S : Nat} {how : Int32} {ru : zRu} {w : Nat → Int32} (h : zGd n T S w) (hT : T + 9990 < 2 ^ 31) (hS : S < 2 ^ 31) : zGd n (T + 9990) (S + 1) (eveF n how ru w) := by
  unfold eveF
  have hn := h.1
  exact (((h.GearnS n (Nat.le_refl _)).mo (T1 := T + 9990) (by omega) (Nat.le_refl _)).payAll hT).ends hT hS
theorem zGd.eves {n T S : Nat} {how : Int32} {ru : zRu} {w : Nat → Int32} (h : zGd n T S w) (k : Nat) : T + 9990 * k < 2147483648 → S + k < 2147483648 → zGd n (T + 9990 * k) (S + k) (evesF n how ru w k) := by
  induction k with
  | zero => exact fun _ _ => h
  | succ k ih =>
    intro hT hS
    show zGd n _ _ (eveF n how ru (evesF n how ru w k))
    rw [Nat.mul_succ] at hT ⊢
    rw [← Nat.add_assoc] at hT ⊢
    generalize 9990 * k = c at *
    generalize evesF n how ru w k = v at *
    have e := ih (Nat.lt_of_le_of_lt (Nat.le_add_right _ _) hT) (Nat.lt_of_succ_lt hS)
    exact zGd.eve e hT (Nat.lt_of_succ_lt hS)

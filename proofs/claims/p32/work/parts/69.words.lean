/-! READ: words, their numbers in both bases -/
def vb (b : Nat) (l : List Nat) : Nat := l.foldl (fun y x => b * y + (x - 96)) 0
theorem vb_s (b : Nat) (l : List Nat) (x : Nat) : vb b (l ++ [x]) = b * vb b l + (x - 96) := by
  unfold vb
  rw [List.foldl_append]
  rfl
theorem vb_lt {b : Nat} (hb : 27 ≤ b) : ∀ (n : Nat) (l : List Nat), l.length = n → (∀ x, x ∈ l → isL x) → vb b l < b ^ n
  | 0, l, hl, _ => by
    rw [List.length_eq_zero_iff.1 hl]
    exact Nat.one_pos
  | n + 1, l, hl, h => by
    obtain ⟨a, x, rfl⟩ := snoc_of l (fun e => by rw [e] at hl; cases hl)
    have la : a.length = n := by
      rw [List.length_append, List.length_singleton] at hl
      omega
    have ih := vb_lt hb n a la (fun y hy => h y (by simp [hy]))
    have hx := h x (by simp)
    rw [vb_s, Nat.pow_succ, Nat.mul_comm (b ^ n) b]
    have : b * vb b a + b ≤ b * b ^ n := by
      rw [← Nat.mul_succ]
      exact Nat.mul_le_mul_left b ih
    omega
theorem vb_inj {b : Nat} (hb : 27 ≤ b) : ∀ (n : Nat) (l m : List Nat), l.length ≤ n → (∀ x, x ∈ l → isL x) → (∀ x, x ∈ m → isL x) → vb b l = vb b m → l = m
  | n, [], m, _, _, hm, h => by
    by_cases c : m = []
    · exact c.symm
    · obtain ⟨a, x, rfl⟩ := snoc_of m c
      have hx := hm x (by simp)
      rw [vb_s] at h
      have h0 : vb b [] = 0 := rfl
      omega
  | 0, y :: l, _, hl, _, _, _ => absurd hl (by simp)
  | n + 1, y :: l, m, hl, h1, hm, h => by
    obtain ⟨a, x, e⟩ := snoc_of (y :: l) (by simp)
    rw [e] at hl h1 h ⊢
    have hx := h1 x (by simp)
    by_cases c : m = []
    · rw [c, vb_s] at h
      have h0 : vb b [] = 0 := rfl
      omega
    · obtain ⟨a2, x2, rfl⟩ := snoc_of m c
      have hx2 := hm x2 (by simp)
      rw [vb_s, vb_s] at h
      have d1 : (b * vb b a + (x - 96)) % b = x - 96 := by
        rw [Nat.mul_add_mod]
        exact Nat.mod_eq_of_lt (by omega)
      have d2 : (b * vb b a2 + (x2 - 96)) % b = x2 - 96 := by
        rw [Nat.mul_add_mod]
        exact Nat.mod_eq_of_lt (by omega)
      rw [h, d2] at d1
      have hv : b * vb b a = b * vb b a2 := by omega
      have hv2 := Nat.eq_of_mul_eq_mul_left (by omega) hv
      rw [List.length_append, List.length_singleton] at hl
      rw [vb_inj hb n a a2 (by omega) (fun z hz => h1 z (by simp [hz])) (fun z hz => hm z (by simp [hz])) hv2, show x = x2 by omega]
def e27 (l : List Nat) : Int64 := l.foldl (fun y x => 27 * y + ((nI x - 97) + 1).toInt64) 0
theorem e27_s (l : List Nat) (x : Nat) : e27 (l ++ [x]) = 27 * e27 l + ((nI x - 97) + 1).toInt64 := by
  unfold e27
  rw [List.foldl_append]
  rfl
theorem dig_all : (List.range 256).all (fun x => decide (isL x → ((nI x - 97) + 1).toInt64 = Int64.ofNat (x - 96))) = true := by decide +kernel
theorem ltDig {x : Nat} (h : isL x) : ((nI x - 97) + 1).toInt64 = Int64.ofNat (x - 96) := by
  have hx : x < 256 := by
    have := h.2
    omega
  exact (of_decide_eq_true (List.all_eq_true.1 dig_all x (List.mem_range.2 hx))) h
theorem e32_v : ∀ (n : Nat) (l : List Nat), l.length = n → (∀ x, x ∈ l → isL x) → e32 l = Int64.ofNat (vb 32 l)
  | 0, l, hl, _ => by
    rw [List.length_eq_zero_iff.1 hl]
    rfl
  | n + 1, l, hl, h => by
    obtain ⟨a, x, rfl⟩ := snoc_of l (fun e => by rw [e] at hl; cases hl)
    have la : a.length = n := by
      rw [List.length_append, List.length_singleton] at hl
      omega
    rw [e32_s, vb_s, e32_v n a la (fun y hy => h y (by simp [hy])), ltDig (h x (by simp)), Int64.ofNat_add, Int64.ofNat_mul]
    rfl
theorem e27_v : ∀ (n : Nat) (l : List Nat), l.length = n → (∀ x, x ∈ l → isL x) → e27 l = Int64.ofNat (vb 27 l)
  | 0, l, hl, _ => by
    rw [List.length_eq_zero_iff.1 hl]
    rfl
  | n + 1, l, hl, h => by
    obtain ⟨a, x, rfl⟩ := snoc_of l (fun e => by rw [e] at hl; cases hl)
    have la : a.length = n := by
      rw [List.length_append, List.length_singleton] at hl
      omega
    rw [e27_s, vb_s, e27_v n a la (fun y hy => h y (by simp [hy])), ltDig (h x (by simp)), Int64.ofNat_add, Int64.ofNat_mul]
    rfl
theorem l64_inj {a b : Nat} (ha : a < 9223372036854775808) (hb : b < 9223372036854775808) (h : Int64.ofNat a = Int64.ofNat b) : a = b := by
  have h2 := congrArg Int64.toInt h
  rw [Int64.toInt_ofNat_of_lt ha, Int64.toInt_ofNat_of_lt hb] at h2
  omega
theorem vb_8 {b : Nat} (hb : 27 ≤ b) (hb2 : b ≤ 32) {l : List Nat} (h8 : l.length ≤ 8) (h : ∀ x, x ∈ l → isL x) : vb b l < 9223372036854775808 := by
  have h1 := vb_lt hb l.length l rfl h
  have h2 : b ^ l.length ≤ 32 ^ l.length := Nat.pow_le_pow_left hb2 _
  have h3 : 32 ^ l.length ≤ 32 ^ 8 := Nat.pow_le_pow_right (by omega) h8
  have h4 : (32 : Nat) ^ 8 = 1099511627776 := by decide
  omega
theorem e32_i {l m : List Nat} (hl : l.length ≤ 8) (hm : m.length ≤ 8) (h1 : ∀ x, x ∈ l → isL x) (h2 : ∀ x, x ∈ m → isL x) : e32 l = e32 m ↔ l = m := by
  constructor
  · intro h
    rw [e32_v _ l rfl h1, e32_v _ m rfl h2] at h
    exact vb_inj (b := 32) (by omega) _ l m (Nat.le_refl _) h1 h2 (l64_inj (vb_8 (by omega) (by omega) hl h1) (vb_8 (by omega) (by omega) hm h2) h)
  · rintro rfl
    rfl
theorem e27_i {l m : List Nat} (hl : l.length ≤ 8) (hm : m.length ≤ 8) (h1 : ∀ x, x ∈ l → isL x) (h2 : ∀ x, x ∈ m → isL x) : e27 l = e27 m ↔ l = m := by
  constructor
  · intro h
    rw [e27_v _ l rfl h1, e27_v _ m rfl h2] at h
    exact vb_inj (b := 27) (by omega) _ l m (Nat.le_refl _) h1 h2 (l64_inj (vb_8 (by omega) (by omega) hl h1) (vb_8 (by omega) (by omega) hm h2) h)
  · rintro rfl
    rfl
/-- the words, as the class orders them; as the reference does -/
def wdC : List (List Nat) := [[104, 111, 117, 115, 101], [115, 116, 114, 101, 101, 116], [116, 117, 114, 110, 115], [112, 97, 121, 115], [101, 97, 114, 110, 115], [115, 104, 97, 114, 101, 100], [115, 101, 101, 100], [105, 102], [116, 104, 101, 110], [101, 108, 115, 101], [97, 108, 105, 107, 101], [109, 111, 115, 116], [114, 111, 117, 110, 100], [108, 101, 102, 116], [114, 105, 103, 104, 116], [111, 119, 110], [103, 97, 112], [100, 97, 121], [108, 111, 116], [112, 111, 116]]
def wdR : List (List Nat) := [[104, 111, 117, 115, 101], [115, 116, 114, 101, 101, 116], [116, 117, 114, 110, 115], [112, 97, 121, 115], [101, 97, 114, 110, 115], [115, 104, 97, 114, 101, 100], [97, 108, 105, 107, 101], [109, 111, 115, 116], [114, 111, 117, 110, 100], [115, 101, 101, 100], [105, 102], [116, 104, 101, 110], [101, 108, 115, 101], [108, 101, 102, 116], [114, 105, 103, 104, 116], [111, 119, 110], [103, 97, 112], [100, 97, 121], [108, 111, 116], [112, 111, 116]]
/-- where a word is in a table -/
def wIx (T : List (List Nat)) (l : List Nat) : Option Nat := T.findIdx? (fun w => decide (w = l))
/-- a token's kind, as the reference numbers it -/
def kSg (x : Nat) : Int32 := if x = 59 then 4 else if x = 61 then 5 else if x = 40 then 6 else if x = 41 then 7 else if x = 43 then 8 else if x = 45 then 9 else if x = 42 then 10 else if x = 47 then 15 else if x = 60 then 13 else 3
def kT (l : List Nat) : Int32 := match l with
  | [] => 0
  | x :: _ => if isL x then (if l.length ≤ 8 then (match wIx wdR l with | some k => nI (20 + k) | none => 1) else 3) else if isD x then (if l.length ≤ 4 then 2 else 3) else kSg x
def vT (l : List Nat) : Int32 := match l with
  | [] => 0
  | x :: _ => if isD x then (d10 (l.take 4)).toInt32 else 0

/-! READ: bytes, tokens -/
def zbyte (x : Int32) : Nat := (x.toBitVec &&& 255#32).toNat
theorem zbyte_lt (x : Int32) : zbyte x < 256 := by
  unfold zbyte
  rw [BitVec.toNat_and]
  exact Nat.lt_of_le_of_lt Nat.and_le_right (by decide)
theorem and255 (x : Int32) : x &&& 255 = nI (zbyte x) := by
  apply Int32.toBitVec_inj.1
  show x.toBitVec &&& 255#32 = BitVec.ofNat 32 (zbyte x)
  unfold zbyte
  rw [BitVec.ofNat_toNat]
  simp
theorem b255 : ∀ j : Fin 32, ¬ j.val < 8 → (255#32)[j.val] = false := by decide
theorem and255r (x : Int32) : x.toInt8.toInt32 &&& 255 = x &&& 255 := by
  apply Int32.toBitVec_inj.1
  show (x.toInt8.toInt32).toBitVec &&& 255#32 = x.toBitVec &&& 255#32
  rw [Int8.toBitVec_toInt32, Int32.toBitVec_toInt8]
  ext i hi
  by_cases h : i < 8
  · rw [BitVec.getElem_and, BitVec.getElem_and, BitVec.getElem_signExtend, dif_pos h, BitVec.getElem_signExtend, dif_pos hi]
  · have : (255#32)[i] = false := b255 ⟨i, hi⟩ h
    rw [BitVec.getElem_and, BitVec.getElem_and, this, Bool.and_false, Bool.and_false]
abbrev isL (x : Nat) : Prop := 97 ≤ x ∧ x ≤ 122
abbrev isD (x : Nat) : Prop := 48 ≤ x ∧ x ≤ 57
/-- the class's kind of a byte -/
def kB (x : Nat) : Int32 := if isL x then 2 else if isD x then 3 else if x = 9 ∨ x = 10 ∨ x = 13 ∨ x = 32 then 4 else if x = 40 ∨ x = 41 ∨ x = 42 ∨ x = 43 ∨ x = 45 ∨ x = 47 ∨ x = 59 ∨ x = 60 ∨ x = 61 then nI x else 1
theorem kB_all : (List.range 256).all (fun x => decide (f_X9_kindOf (nI x) = some (kB x))) = true := by decide +kernel
theorem X9_kindOf {x : Nat} (hx : x < 256) : f_X9_kindOf (nI x) = some (kB x) := by
  have h := List.all_eq_true.1 kB_all x (List.mem_range.2 hx)
  simpa using h
abbrev zTok := Nat × List Nat
def addL : List zTok → Nat → List zTok
  | [], _ => []
  | [(p, l)], x => [(p, l ++ [x])]
  | t :: s :: ts, x => t :: addL (s :: ts) x
/-- the tokens of the first bytes -/
def tokS (B : Nat → Nat) : Nat → Int32 × List zTok
  | 0 => (4, [])
  | i + 1 => if kB (B i) = 4 then (4, (tokS B i).2) else if kB (B i) = (tokS B i).1 ∧ (kB (B i) = 2 ∨ kB (B i) = 3) then (kB (B i), addL (tokS B i).2 (B i)) else (kB (B i), (tokS B i).2 ++ [(i, [B i])])
theorem addL_app : ∀ (ts : List zTok) (p : Nat) (l : List Nat) (x : Nat), addL (ts ++ [(p, l)]) x = ts ++ [(p, l ++ [x])]
  | [], _, _, _ => rfl
  | [t], p, l, x => rfl
  | t :: s :: ts, p, l, x => by
    show t :: addL ((s :: ts) ++ [(p, l)]) x = _
    rw [addL_app (s :: ts) p l x]
    rfl
theorem snoc_of {α : Type} : ∀ (l : List α), l ≠ [] → ∃ a b, l = a ++ [b]
  | [], h => absurd rfl h
  | [x], _ => ⟨[], x, rfl⟩
  | x :: y :: l, _ => by
    obtain ⟨a, b, e⟩ := snoc_of (y :: l) (by simp)
    exact ⟨x :: a, b, by rw [e]; rfl⟩
/-- how words and numbers are written down, on the class's side -/
def e32 (l : List Nat) : Int64 := l.foldl (fun y x => 32 * y + ((nI x - 97) + 1).toInt64) 0
def d10 (l : List Nat) : Int64 := l.foldl (fun y x => 10 * y + (nI x - 48).toInt64) 0
theorem e32_s (l : List Nat) (x : Nat) : e32 (l ++ [x]) = 32 * e32 l + ((nI x - 97) + 1).toInt64 := by
  unfold e32
  rw [List.foldl_append]
  rfl
theorem d10_s (l : List Nat) (x : Nat) : d10 (l ++ [x]) = 10 * d10 l + (nI x - 48).toInt64 := by
  unfold d10
  rw [List.foldl_append]
  rfl
/-- a token's bytes are of one kind -/
def tkOk (t : zTok) : Prop := (∃ x, t.2 = [x] ∧ ¬ isL x ∧ ¬ isD x) ∨ (t.2 ≠ [] ∧ ∀ x, x ∈ t.2 → isL x) ∨ (t.2 ≠ [] ∧ ∀ x, x ∈ t.2 → isD x)
/-- the cells of a token, before the words are known -/
def tkX (M : zM) (L : zL) (j : Nat) (t : zTok) : Prop := M 8 j = nI t.1 ∧
  ((∃ x, t.2 = [x] ∧ ¬ isL x ∧ ¬ isD x ∧ M 7 j = kB x) ∨
   (t.2 ≠ [] ∧ (∀ x, x ∈ t.2 → isL x) ∧ M 7 j = (if t.2.length ≤ 8 then 2 else 1) ∧ L 9 j = e32 (t.2.take 8)) ∨
   (t.2 ≠ [] ∧ (∀ x, x ∈ t.2 → isD x) ∧ M 7 j = (if t.2.length ≤ 4 then 3 else 1) ∧ L 9 j = d10 (t.2.take 4)))
theorem kB_2 {x : Nat} (hx : x < 256) : (kB x = 2 ↔ isL x) ∧ (kB x = 3 ↔ isD x) ∧ (kB x = 4 ↔ (x = 9 ∨ x = 10 ∨ x = 13 ∨ x = 32)) := by
  have h : (List.range 256).all (fun x => decide ((kB x = 2 ↔ isL x) ∧ (kB x = 3 ↔ isD x) ∧ (kB x = 4 ↔ (x = 9 ∨ x = 10 ∨ x = 13 ∨ x = 32)))) = true := by decide +kernel
  exact of_decide_eq_true (List.all_eq_true.1 h x (List.mem_range.2 hx))

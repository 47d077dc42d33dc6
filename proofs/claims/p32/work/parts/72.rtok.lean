/-! READ, on the reference's side: tokens -/
def tkY (M : zM) (L : zL) (j : Nat) (t : zTok) : Prop := M 245 j = kT t.2 ∧ M 246 j = nI t.1 ∧ (kT t.2 = 2 → M 247 j = vT t.2) ∧ (kT t.2 = 1 → L 248 j = e27 t.2)
theorem wdR_all : (List.range 20).all (fun k => decide (kT (wdR.getD k []) = nI (20 + k) ∧ (wdR.getD k []).length ≤ 7 ∧ ∀ x, x ∈ wdR.getD k [] → isL x)) = true := by decide +kernel
theorem wdR_k {k : Nat} (hk : k < 20) : kT (wdR.getD k []) = nI (20 + k) ∧ (wdR.getD k []).length ≤ 7 ∧ ∀ x, x ∈ wdR.getD k [] → isL x := of_decide_eq_true (List.all_eq_true.1 wdR_all k (List.mem_range.2 hk))
theorem wdRR : wdR.all (fun w => (List.range 20).any (fun k => decide (wdR.getD k [] = w))) = true := by decide +kernel
theorem wIx_noneR {l : List Nat} (h : ∀ k, k < 20 → wdR.getD k [] ≠ l) : wIx wdR l = none := by
  unfold wIx
  rw [List.findIdx?_eq_none_iff]
  intro w hw
  obtain ⟨k, hk, e⟩ := List.any_eq_true.1 (List.all_eq_true.1 wdRR w hw)
  have e2 := of_decide_eq_true e
  exact decide_eq_false (fun z => h k (List.mem_range.1 hk) (e2.trans z))
section REF
variable {R : zR} {M M1 : zM} {L L1 : zL} {B : Nat → Nat} {n i : Nat}
theorem X12_token (hR : zMd R) {m : Nat} (h10 : M 242 10 = nI m) (hm : m ≤ 402) (k p v : Int32) (y : Int64) : zT (f_X12_token R M L 242 k p v y) (fun r => r.1 242 10 = nI (m + 1) ∧ r.1 245 m = k ∧ r.1 246 m = p ∧ r.1 247 m = v ∧ r.2 248 m = y ∧ zag (fun b j => ((b = 245 ∨ b = 246 ∨ b = 247) ∧ j = m) ∨ (b = 242 ∧ j = 10)) M r.1 ∧ ∀ b j, ¬ (b = 248 ∧ j = m) → r.2 b j = L b j) := by
  unfold f_X12_token
  rw [hR.at (k := 5) (b := 245) rfl (by decide), hR.at (k := 6) (b := 246) rfl (by decide), hR.at (k := 7) (b := 247) rfl (by decide), hR.at (k := 8) (b := 248) rfl (by decide), h10, ztn_nI (by omega)]
  have e1 : zup M 245 m k 242 10 = nI m := by rw [zup_a (by omega)]; exact h10
  refine zT_ck (zin_nI (by omega) (by omega)) (zT_lt ?_)
  rw [e1, ztn_nI (by omega)]
  have e2 : zup (zup M 245 m k) 246 m p 242 10 = nI m := by rw [zup_a (by omega)]; exact e1
  refine zT_ck (zin_nI (by omega) (by omega)) (zT_lt ?_)
  rw [e2, ztn_nI (by omega)]
  have e3 : zup (zup (zup M 245 m k) 246 m p) 247 m v 242 10 = nI m := by rw [zup_a (by omega)]; exact e2
  refine zT_ck (zin_nI (by omega) (by omega)) (zT_lt ?_)
  rw [e3, ztn_nI (by omega), nI_1]
  refine zT_ck (zin_nI (by omega) (by omega)) (zT_lt (zT_lt (zT_some ⟨?_, ?_, ?_, ?_, by dsimp only; exact zupL_same, (((zag.rf.up (by omega)).up (by omega)).up (by omega)).up (by omega), fun b j hb => ?_⟩)))
  · dsimp only; rw [zup_same]
  · dsimp only; rw [zup_a (by omega), zup_a (by omega), zup_a (by omega), zup_same]
  · dsimp only; rw [zup_a (by omega), zup_a (by omega), zup_same]
  · dsimp only; rw [zup_a (by omega), zup_same]
  · dsimp only
    by_cases e : b = 248
    · subst e
      rw [zupL_k (by omega)]
    · rw [zupL_a e]
def btR (M : zM) (B : Nat → Nat) (n : Nat) : Prop := n ≤ 2000 ∧ M 242 4 = nI n ∧ ∀ j, j < n → M 244 j &&& 255 = nI (B j)
theorem X12_byte (hR : zMd R) (hb : btR M B n) (hi : i < 9999) : f_X12_byteAt R M 242 (nI i) = some (if i < n then nI (B i) else 0) := by
  obtain ⟨h1, h2, h3⟩ := hb
  unfold f_X12_byteAt zck
  rw [h2, hR.at (k := 3) (b := 244) rfl (by decide)]
  by_cases c : i < n
  · rw [if_neg (nI_ge c (by omega)), if_pos (zin_nI (by omega) (by omega)), ztn_nI (by omega), h3 i c, if_pos c]
  · rw [if_pos (nI_le (by omega) (by omega)), if_neg c]
theorem X12_isL {x : Nat} (hx : x < 256) : f_X12_isLetter (nI x) = some (if isL x then 1 else 0) := by
  have h : (List.range 256).all (fun x => decide (f_X12_isLetter (nI x) = some (if isL x then 1 else 0))) = true := by decide +kernel
  exact of_decide_eq_true (List.all_eq_true.1 h x (List.mem_range.2 hx))
theorem X12_isD2 {x : Nat} (hx : x < 256) : f_X12_isDigit (nI x) = some (if isD x then 1 else 0) := by
  have h : (List.range 256).all (fun x => decide (f_X12_isDigit (nI x) = some (if isD x then 1 else 0))) = true := by decide +kernel
  exact of_decide_eq_true (List.all_eq_true.1 h x (List.mem_range.2 hx))
def seg (B : Nat → Nat) (i : Nat) : Nat → List Nat
  | 0 => []
  | k + 1 => seg B i k ++ [B (i + k)]
theorem seg_len (B : Nat → Nat) (i : Nat) : ∀ k, (seg B i k).length = k
  | 0 => rfl
  | k + 1 => by
    unfold seg
    rw [List.length_append, seg_len B i k]
    rfl
/-- a run's bytes -/
theorem seg_all {B : Nat → Nat} {i : Nat} {p : Nat → Prop} : ∀ k, (∀ j, j < k → p (B (i + j))) → ∀ x, x ∈ seg B i k → p x
  | 0, _, x, hx => absurd hx (by simp [seg])
  | k + 1, h, x, hx => by
    unfold seg at hx
    rcases List.mem_append.1 hx with q | q
    · exact seg_all k (fun j hj => h j (by omega)) x q
    · rw [List.mem_singleton.1 q]
      exact h k (by omega)
theorem tokS_s (B : Nat → Nat) (i : Nat) : tokS B (i + 1) = if kB (B i) = 4 then (4, (tokS B i).2) else if kB (B i) = (tokS B i).1 ∧ (kB (B i) = 2 ∨ kB (B i) = 3) then (kB (B i), addL (tokS B i).2 (B i)) else (kB (B i), (tokS B i).2 ++ [(i, [B i])]) := rfl
theorem tokS_run {B : Nat → Nat} {i : Nat} {kd : Int32} (hkd : kd = 2 ∨ kd = 3) (hn : ¬ (kB (B i) = (tokS B i).1 ∧ (kB (B i) = 2 ∨ kB (B i) = 3))) : ∀ k, (∀ j, j < k + 1 → kB (B (i + j)) = kd) → tokS B (i + (k + 1)) = (kd, (tokS B i).2 ++ [(i, seg B i (k + 1))])
  | 0, h => by
    have h0 := h 0 (by omega)
    rw [Nat.add_zero] at h0
    show (if kB (B i) = 4 then _ else _) = _
    rw [if_neg (by rw [h0]; rcases hkd with q | q <;> rw [q] <;> decide), if_neg hn, h0]
    rfl
  | k + 1, h => by
    have ih := tokS_run hkd hn k (fun j hj => h j (by omega))
    have h0 := h (k + 1) (by omega)
    rw [← Nat.add_assoc, tokS_s]
    rw [if_neg (by rw [h0]; rcases hkd with q | q <;> rw [q] <;> decide), ih, if_pos ⟨h0, by rw [h0]; exact hkd⟩, h0, addL_app]
    rfl
/-- the run of letters -/
theorem X12_letters (hR : zMd R) (hb : btR M B n) (hB : ∀ j, B j < 256) (hi : i < n) : zT (zloop zN (fun v => b_X12_cut_85 R M L 242 (nI i) v.1 v.2) ((0 : Int32), (0 : Int64))) (fun e => ∃ r, i + r ≤ n ∧ (∀ j, j < r → isL (B (i + j))) ∧ (i + r < n → ¬ isL (B (i + r))) ∧ e.1 = nI r ∧ e.2 = e27 ((seg B i r).take 8)) := by
  have n2 := hb.1
  refine zT_loop (fun m v => ∃ r, m = n - (i + r) ∧ i + r ≤ n ∧ (∀ j, j < r → isL (B (i + j))) ∧ v.1 = nI r ∧ v.2 = e27 ((seg B i r).take 8)) (n - i) ⟨0, rfl, by omega, fun j hj => absurd hj (by omega), rfl, rfl⟩ (by omega) ?_
  rintro m ⟨v1, v2⟩ ⟨r, rfl, h1, h2, e1, e2⟩
  dsimp only at e1 e2
  subst e1 e2
  unfold b_X12_cut_85
  dsimp only
  rw [nI_add]
  refine zT_bd (zT_eq (X12_byte hR hb (by omega)) ?_)
  by_cases c : i + r < n
  case neg =>
    rw [if_neg c]
    exact zT_bd (zT_eq (show f_X12_isLetter 0 = some 0 from by decide) (zT_if1 rfl (zT_some ⟨r, h1, h2, fun z => absurd z c, rfl, rfl⟩)))
  rw [if_pos c]
  refine zT_bd (zT_eq (X12_isL (hB _)) ?_)
  by_cases cl : isL (B (i + r))
  case neg =>
    rw [if_neg cl]
    exact zT_if1 rfl (zT_some ⟨r, h1, h2, fun _ => cl, rfl, rfl⟩)
  rw [if_pos cl]
  refine zT_if0 (by decide) ?_
  have all1 : ∀ j, j < r + 1 → isL (B (i + j)) := fun j hj => by
    by_cases e : j = r
    · rw [e]
      exact cl
    · exact h2 j (by omega)
  have sl := seg_len B i r
  by_cases c8 : 8 ≤ r
  · refine zT_if1 (by rw [nI_lit 8]; exact nI_le c8 (by omega)) (zT_some ⟨n - (i + (r + 1)), by omega, r + 1, rfl, by omega, all1, nI_1 r, ?_⟩)
    dsimp only
    rw [seg, take_ge (by omega)]
  · refine zT_if0 (by rw [nI_lit 8]; exact nI_ge (by omega) (by omega)) (zT_bd (zT_eq (X12_byte hR hb (by omega)) ?_))
    rw [if_pos c]
    have ap : ∀ y, f_X12_appends y (nI (B (i + r))) = some (27 * y + ((nI (B (i + r)) - 97) + 1).toInt64) := fun y => by
      unfold f_X12_appends
      rw [if_neg (fun z => by
        have := nI_inj (b := 0) (by have := hB (i + r); omega) (by omega) z
        have := cl.1
        omega)]
    refine zT_bd (zT_eq (ap _) (zT_some ⟨n - (i + (r + 1)), by omega, r + 1, rfl, by omega, all1, nI_1 r, ?_⟩))
    obtain ⟨t1, t2⟩ := take_lt (x := B (i + r)) (show (seg B i r).length < 8 by omega)
    dsimp only
    rw [seg, t1, t2, e27_s]
end REF

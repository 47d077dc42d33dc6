/-! READ, on the class's side: tokens -/
abbrev z0T : zTok := (0, [])
theorem gT_l {l m : List zTok} {j : Nat} (h : j < l.length) : (l ++ m).getD j z0T = l.getD j z0T := by
  rw [List.getD_eq_getElem?_getD, List.getD_eq_getElem?_getD, List.getElem?_append_left h]
theorem gT_e {l : List zTok} {y : zTok} : (l ++ [y]).getD l.length z0T = y := by
  rw [List.getD_eq_getElem?_getD, List.getElem?_append_right (Nat.le_refl _), Nat.sub_self]
  rfl
theorem addL_pre : ∀ (ts r : List zTok) (x : Nat), r ≠ [] → addL (ts ++ r) x = ts ++ addL r x := fun ts r x h => by
  obtain ⟨a, ⟨p, l⟩, rfl⟩ := snoc_of r h
  rw [← List.append_assoc, addL_app, addL_app, List.append_assoc]
theorem addL_ne {r : List zTok} {x : Nat} (h : r ≠ []) : addL r x ≠ [] := by
  obtain ⟨a, ⟨p, l⟩, rfl⟩ := snoc_of r h
  rw [addL_app]
  simp
/-- what is begun stays -/
theorem tokS_pre {B : Nat → Nat} {ts : List zTok} {i : Nat} (h : ∃ r, r ≠ [] ∧ (tokS B i).2 = ts ++ r) : ∀ k, ∃ r, r ≠ [] ∧ (tokS B (i + k)).2 = ts ++ r
  | 0 => h
  | k + 1 => by
    obtain ⟨r, h1, h2⟩ := tokS_pre h k
    rw [← Nat.add_assoc]
    unfold tokS
    by_cases c1 : kB (B (i + k)) = 4
    · rw [if_pos c1]
      exact ⟨r, h1, h2⟩
    rw [if_neg c1]
    by_cases c2 : kB (B (i + k)) = (tokS B (i + k)).1 ∧ (kB (B (i + k)) = 2 ∨ kB (B (i + k)) = 3)
    · rw [if_pos c2]
      exact ⟨addL r (B (i + k)), addL_ne h1, by dsimp only; rw [h2, addL_pre _ _ _ h1]⟩
    · rw [if_neg c2]
      exact ⟨r ++ [(i + k, [B (i + k)])], by simp, by dsimp only; rw [h2, List.append_assoc]⟩
theorem take_lt {l : List Nat} {x k : Nat} (h : l.length < k) : (l ++ [x]).take k = l ++ [x] ∧ l.take k = l := by
  exact ⟨List.take_of_length_le (by simp; omega), List.take_of_length_le (by omega)⟩
theorem take_ge {l : List Nat} {x k : Nat} (h : k ≤ l.length) : (l ++ [x]).take k = l.take k := List.take_append_of_le_length h
section CLS
variable {R : zR} {M M1 : zM} {L L1 : zL}
theorem X9_growL (hp : zRp R) {m : Nat} {l : List Nat} {x : Nat} (h4 : M 6 4 = nI (m + 1)) (hm : m ≤ 400) (h5 : M 6 5 = nI l.length) (hl : l.length < 3000) (h7 : M 7 m = (if l.length ≤ 8 then 2 else 1)) (h9 : L 9 m = e32 (l.take 8)) : zT (f_X9_grow R M L 6 2 (nI x)) (fun p => p.1 6 5 = nI (l ++ [x]).length ∧ p.1 7 m = (if (l ++ [x]).length ≤ 8 then 2 else 1) ∧ p.2 9 m = e32 ((l ++ [x]).take 8) ∧ zag (fun b k => (b = 6 ∧ k = 5) ∨ (b = 7 ∧ k = m)) M p.1 ∧ ∀ b k, ¬ (b = 9 ∧ k = m) → p.2 b k = L b k) := by
  obtain ⟨_, _, _, _, k7, k8, k9, _⟩ := hp
  unfold f_X9_grow j_X9_grow_46 j_X9_grow_98 f_X9_spelled
  have ll : (l ++ [x]).length = l.length + 1 := by simp
  rw [h4, nI_sub1 (by omega), Nat.add_sub_cancel, h5, nI_1, ll]
  refine zT_if0 (nI_pos (by omega)) (zT_if1 (by rw [nI_lit 402]; exact nI_lt (by omega) (by omega)) (zT_lt (zT_if1 rfl ?_)))
  have g : zag (fun b k => (b = 6 ∧ k = 5) ∨ (b = 7 ∧ k = m)) M (zup M 6 5 (nI (l.length + 1))) := zag.rf.up (Or.inl ⟨rfl, rfl⟩)
  have e5 : zup M 6 5 (nI (l.length + 1)) 6 5 = nI (l.length + 1) := zup_same
  have e7 : zup M 6 5 (nI (l.length + 1)) 7 m = (if l.length ≤ 8 then 2 else 1) := by rw [zup_a (by omega)]; exact h7
  rw [e5]
  generalize zup M 6 5 (nI (l.length + 1)) = M2 at g e5 e7 ⊢
  by_cases c : l.length + 1 ≤ 8
  · refine zT_if1 (by rw [nI_lit 8]; exact nI_le c (by omega)) (zT_if1 rfl (zT_ck (zin_nI (by omega) (by omega)) (zT_bd (zT_some (zT_ck (zin_nI (by omega) (by omega)) (zT_lt (zT_some ⟨e5, ?_, ?_, g, fun b k hb => ?_⟩)))))))
    · dsimp only
      rw [e7, if_pos (by omega), if_pos c]
    · dsimp only
      obtain ⟨t1, t2⟩ := take_lt (x := x) (show l.length < 8 by omega)
      rw [k9, ztn_nI (by omega), zupL_same, h9, t1, t2, e32_s]
    · dsimp only
      rw [k9, ztn_nI (by omega)]
      by_cases e : b = 9
      · subst e
        rw [zupL_k (by omega)]
      · rw [zupL_a e]
  · refine zT_if0 (by rw [nI_lit 8]; exact nI_ge (by omega) (by omega)) (zT_ck (zin_nI (by omega) (by omega)) (zT_lt (zT_some ⟨?_, ?_, ?_, ?_, fun b k hb => rfl⟩)))
    · dsimp only
      rw [k7, zup_a (by omega)]
      exact e5
    · dsimp only
      rw [k7, ztn_nI (by omega), zup_same, if_neg c]
    · dsimp only
      rw [take_ge (by omega)]
      exact h9
    · dsimp only
      rw [k7, ztn_nI (by omega)]
      exact g.up (Or.inr ⟨rfl, rfl⟩)
theorem X9_growD (hp : zRp R) {m : Nat} {l : List Nat} {x : Nat} (h4 : M 6 4 = nI (m + 1)) (hm : m ≤ 400) (h5 : M 6 5 = nI l.length) (hl : l.length < 3000) (h7 : M 7 m = (if l.length ≤ 4 then 3 else 1)) (h9 : L 9 m = d10 (l.take 4)) : zT (f_X9_grow R M L 6 3 (nI x)) (fun p => p.1 6 5 = nI (l ++ [x]).length ∧ p.1 7 m = (if (l ++ [x]).length ≤ 4 then 3 else 1) ∧ p.2 9 m = d10 ((l ++ [x]).take 4) ∧ zag (fun b k => (b = 6 ∧ k = 5) ∨ (b = 7 ∧ k = m)) M p.1 ∧ ∀ b k, ¬ (b = 9 ∧ k = m) → p.2 b k = L b k) := by
  obtain ⟨_, _, _, _, k7, k8, k9, _⟩ := hp
  unfold f_X9_grow j_X9_grow_46 j_X9_grow_98
  have ll : (l ++ [x]).length = l.length + 1 := by simp
  rw [h4, nI_sub1 (by omega), Nat.add_sub_cancel, h5, nI_1, ll]
  refine zT_if0 (nI_pos (by omega)) (zT_if1 (by rw [nI_lit 402]; exact nI_lt (by omega) (by omega)) (zT_lt (zT_if0 (by decide) ?_)))
  have g : zag (fun b k => (b = 6 ∧ k = 5) ∨ (b = 7 ∧ k = m)) M (zup M 6 5 (nI (l.length + 1))) := zag.rf.up (Or.inl ⟨rfl, rfl⟩)
  have e5 : zup M 6 5 (nI (l.length + 1)) 6 5 = nI (l.length + 1) := zup_same
  have e7 : zup M 6 5 (nI (l.length + 1)) 7 m = (if l.length ≤ 4 then 3 else 1) := by rw [zup_a (by omega)]; exact h7
  rw [e5]
  generalize zup M 6 5 (nI (l.length + 1)) = M2 at g e5 e7 ⊢
  by_cases c : l.length + 1 ≤ 4
  · refine zT_if1 (by rw [nI_lit 4]; exact nI_le c (by omega)) (zT_if0 (by decide) (zT_ck (zin_nI (by omega) (by omega)) (zT_ck (zin_nI (by omega) (by omega)) (zT_lt (zT_some ⟨e5, ?_, ?_, g, fun b k hb => ?_⟩)))))
    · dsimp only
      rw [e7, if_pos (by omega), if_pos c]
    · dsimp only
      obtain ⟨t1, t2⟩ := take_lt (x := x) (show l.length < 4 by omega)
      rw [k9, ztn_nI (by omega), zupL_same, h9, t1, t2, d10_s]
    · dsimp only
      rw [k9, ztn_nI (by omega)]
      by_cases e : b = 9
      · subst e
        rw [zupL_k (by omega)]
      · rw [zupL_a e]
  · refine zT_if0 (by rw [nI_lit 4]; exact nI_ge (by omega) (by omega)) (zT_ck (zin_nI (by omega) (by omega)) (zT_lt (zT_some ⟨?_, ?_, ?_, ?_, fun b k hb => rfl⟩)))
    · dsimp only
      rw [k7, zup_a (by omega)]
      exact e5
    · dsimp only
      rw [k7, ztn_nI (by omega), zup_same, if_neg c]
    · dsimp only
      rw [take_ge (by omega)]
      exact h9
    · dsimp only
      rw [k7, ztn_nI (by omega)]
      exact g.up (Or.inr ⟨rfl, rfl⟩)
/-- a token begun -/
theorem X9_open (hp : zRp R) {m : Nat} (h4 : M 6 4 = nI m) (hm : m ≤ 401) (k x : Int32) : zT (f_X9_open R M L 6 k x) (fun p => (m = 401 ∧ p.1 = 0 ∧ p.2.1 = M ∧ p.2.2 = L) ∨ (m ≤ 400 ∧ p.1 = 1 ∧ p.2.1 6 4 = nI (m + 1) ∧ p.2.1 6 5 = 0 ∧ p.2.1 7 m = k ∧ p.2.1 8 m = x ∧ p.2.2 9 m = 0 ∧ zag (fun b j => (b = 6 ∧ (j = 4 ∨ j = 5)) ∨ (b = 7 ∧ j = m) ∨ (b = 8 ∧ j = m)) M p.2.1 ∧ ∀ b j, ¬ (b = 9 ∧ j = m) → p.2.2 b j = L b j)) := by
  obtain ⟨_, _, _, _, k7, k8, k9, _⟩ := hp
  unfold f_X9_open
  rw [k7, k8, k9, h4]
  refine zT_if0 (nI_pos (by omega)) ?_
  by_cases c : m = 401
  · exact zT_if0 (by rw [nI_lit 400]; exact nI_ge (by omega) (by omega)) (zT_some (Or.inl ⟨c, rfl, rfl, rfl⟩))
  refine zT_if1 (by rw [nI_lit 400]; exact nI_le (by omega) (by omega)) (zT_ck (zin_nI (by omega) (by omega)) (zT_lt ?_))
  rw [ztn_nI (by omega)]
  have e1 : zup M 7 m k 6 4 = nI m := by rw [zup_a (by omega)]; exact h4
  rw [e1, ztn_nI (by omega)]
  refine zT_ck (zin_nI (by omega) (by omega)) (zT_lt ?_)
  have e2 : zup (zup M 7 m k) 8 m x 6 4 = nI m := by rw [zup_a (by omega)]; exact e1
  rw [e2, ztn_nI (by omega)]
  refine zT_ck (zin_nI (by omega) (by omega)) (zT_lt (zT_lt (zT_lt (zT_some (Or.inr ⟨by omega, rfl, ?_, ?_, ?_, ?_, by dsimp only; exact zupL_same, ?_, fun b j hb => ?_⟩)))))
  · dsimp only
    rw [zup_same, zup_k (by omega), e2, nI_1]
  · dsimp only
    rw [zup_k (by omega), zup_same]
  · dsimp only
    rw [zup_a (by omega), zup_a (by omega), zup_a (by omega), zup_same]
  · dsimp only
    rw [zup_a (by omega), zup_a (by omega), zup_same]
  · exact ((((zag.rf.up (by omega)).up (by omega)).up (by omega)).up (by omega))
  · dsimp only
    by_cases e : b = 9
    · subst e
      rw [zupL_k (by omega)]
    · rw [zupL_a e]
end CLS

/-! READ, on the class's side: the tokens closed -/
def tsN (B : Nat → Nat) (n : Nat) : List zTok := (tokS B n).2
def cN (B : Nat → Nat) (n : Nat) : Nat := min (tsN B n).length 400
def kN (B : Nat → Nat) (n : Nat) (i : Nat) : Int32 := if i < (tsN B n).length then kT ((tsN B n).getD i z0T).2 else 0
def vN (B : Nat → Nat) (n : Nat) (i : Nat) : Int32 := if i < (tsN B n).length then vT ((tsN B n).getD i z0T).2 else 0
def pN (B : Nat → Nat) (n : Nat) (i : Nat) : Int32 := if i < (tsN B n).length then nI ((tsN B n).getD i z0T).1 else nI n
def eN (B : Nat → Nat) (n : Nat) (i j : Nat) : Bool := decide (((tsN B n).getD i z0T).2 = ((tsN B n).getD j z0T).2)
def tkW (t : zTok) : Prop := t.2 ≠ [] ∧ ∀ x, t.2 = [x] → kB x ≠ 4 ∧ x < 256
theorem tsW {B : Nat → Nat} (hB : ∀ i, B i < 256) : ∀ (i : Nat), (∀ j, j < (tokS B i).2.length → tkW ((tokS B i).2.getD j z0T) ∧ ((tokS B i).2.getD j z0T).1 < i) ∧ (∀ j k, j < k → k < (tokS B i).2.length → ((tokS B i).2.getD j z0T).1 < ((tokS B i).2.getD k z0T).1)
  | 0 => ⟨fun j hj => absurd hj (by show ¬ j < 0; omega), fun j k _ hk => absurd hk (by show ¬ k < 0; omega)⟩
  | i + 1 => by
    obtain ⟨h1, h2⟩ := tsW hB i
    unfold tokS
    by_cases c4 : kB (B i) = 4
    · rw [if_pos c4]
      exact ⟨fun j hj => ⟨(h1 j hj).1, by have := (h1 j hj).2; dsimp only; omega⟩, h2⟩
    rw [if_neg c4]
    have snoc : ∀ (a : List zTok) (t : zTok), (∀ j, j < a.length → tkW (a.getD j z0T) ∧ (a.getD j z0T).1 < i) → (∀ j k, j < k → k < a.length → (a.getD j z0T).1 < (a.getD k z0T).1) → tkW t → t.1 < i + 1 → (∀ j, j < a.length → (a.getD j z0T).1 < t.1) → (∀ j, j < (a ++ [t]).length → tkW ((a ++ [t]).getD j z0T) ∧ ((a ++ [t]).getD j z0T).1 < i + 1) ∧ (∀ j k, j < k → k < (a ++ [t]).length → ((a ++ [t]).getD j z0T).1 < ((a ++ [t]).getD k z0T).1) := fun a t g1 g2 g3 g4 g5 => by
      have la : (a ++ [t]).length = a.length + 1 := by simp
      rw [la]
      refine ⟨fun j hj => ?_, fun j k hjk hk => ?_⟩
      · by_cases e : j = a.length
        · subst e
          rw [gT_e]
          exact ⟨g3, g4⟩
        · rw [gT_l (by omega)]
          exact ⟨(g1 j (by omega)).1, by have := (g1 j (by omega)).2; omega⟩
      · by_cases e : k = a.length
        · subst e
          rw [gT_e, gT_l hjk]
          exact g5 j hjk
        · rw [gT_l (by omega), gT_l (by omega)]
          exact g2 j k hjk (by omega)
    by_cases c2 : kB (B i) = (tokS B i).1 ∧ (kB (B i) = 2 ∨ kB (B i) = 3)
    · rw [if_pos c2]
      dsimp only
      by_cases e0 : (tokS B i).2 = []
      · rw [e0]
        exact ⟨fun j hj => absurd hj (by show ¬ j < 0; omega), fun j k _ hk => absurd hk (by show ¬ k < 0; omega)⟩
      obtain ⟨a, ⟨p, l⟩, e⟩ := snoc_of _ e0
      rw [e] at h1 h2 ⊢
      rw [addL_app]
      have la : (a ++ [(p, l)]).length = a.length + 1 := by simp
      rw [la] at h1 h2
      have hl := h1 a.length (by omega)
      rw [gT_e] at hl
      refine snoc a (p, l ++ [B i]) (fun j hj => ?_) (fun j k hjk hk => ?_) ⟨by simp, fun x hx => ?_⟩ (by have := hl.2; dsimp only at this ⊢; omega) (fun j hj => ?_)
      · have := h1 j (by omega)
        rw [gT_l hj] at this
        exact this
      · have := h2 j k hjk (by omega)
        rw [gT_l (by omega), gT_l hk] at this
        exact this
      · exfalso
        have l0 : l ≠ [] := hl.1.1
        have := congrArg List.length hx
        simp at this
        exact l0 this
      · have := h2 j a.length hj (by omega)
        rw [gT_l hj, gT_e] at this
        exact this
    · rw [if_neg c2]
      exact snoc _ (i, [B i]) h1 h2 ⟨by simp, fun x hx => by
        have : B i = x := by simpa using hx
        rw [← this]
        exact ⟨c4, hB i⟩⟩ (by dsimp only; omega) (fun j hj => (h1 j hj).2)
def wdOkC (L : zL) : Prop := ∀ k, k < 20 → L 10 k = e32 (wdC.getD k [])
def wdOkR (L : zL) : Prop := ∀ k, k < 20 → L 249 k = e27 (wdR.getD k [])
theorem wdC_all : (List.range 20).all (fun k => decide (ckF (kT (wdC.getD k [])) = 100 + nI k ∧ (wdC.getD k []).length ≤ 7 ∧ ∀ x, x ∈ wdC.getD k [] → isL x)) = true := by decide +kernel
theorem wdC_k {k : Nat} (hk : k < 20) : ckF (kT (wdC.getD k [])) = 100 + nI k ∧ (wdC.getD k []).length ≤ 7 ∧ ∀ x, x ∈ wdC.getD k [] → isL x := of_decide_eq_true (List.all_eq_true.1 wdC_all k (List.mem_range.2 hk))
theorem wdRC : wdR.all (fun w => (List.range 20).any (fun k => decide (wdC.getD k [] = w))) = true := by decide +kernel
theorem wIx_none {l : List Nat} (h : ∀ k, k < 20 → wdC.getD k [] ≠ l) : wIx wdR l = none := by
  unfold wIx
  rw [List.findIdx?_eq_none_iff]
  intro w hw
  obtain ⟨k, hk, e⟩ := List.any_eq_true.1 (List.all_eq_true.1 wdRC w hw)
  have e2 := of_decide_eq_true e
  exact decide_eq_false (fun z => h k (List.mem_range.1 hk) (e2.trans z))
section CLS
variable {R : zR} {M M1 : zM} {L L1 : zL} {B : Nat → Nat} {n i : Nat}
theorem X9_word (hp : zRp R) (hw : wdOkC L) {l : List Nat} (h0 : l ≠ []) (h1 : ∀ x, x ∈ l → isL x) (h8 : l.length ≤ 8) : zT (f_X9_wordOrName R L 6 (e32 l)) (fun r => r = ckF (kT l)) := by
  unfold f_X9_wordOrName
  refine zT_bd (zT_for 20 (fun k v => v = nI k ∧ ∀ i, i < k → wdC.getD i [] ≠ l) ⟨rfl, fun i hi => absurd hi (by omega)⟩ (by omega) ?_ ?_)
  · rintro k v hk ⟨rfl, ho⟩
    unfold b_X9_wordOrName_2
    obtain ⟨w1, w2, w3⟩ := wdC_k hk
    rw [hp.2.2.2.2.2.2.2, ztn_nI (by omega), hw k hk]
    refine zT_if0 (by rw [nI_lit 20]; exact nI_ge hk (by omega)) (zT_ck (zin_nI hk (by omega)) ?_)
    by_cases c : wdC.getD k [] = l
    · refine zT_if1 ((lg_cmp_eq _ _).2 (by rw [c])) (zT_some (zT_some ?_))
      rw [← c]
      exact w1.symm
    · refine zT_if0 (fun z => c ((e32_i (by omega) h8 w3 h1).1 ((lg_cmp_eq _ _).1 z))) (zT_some ⟨nI_1 k, fun i hi => ?_⟩)
      by_cases e : i = k
      · rw [e]
        exact c
      · exact ho i (by omega)
  · rintro v ⟨rfl, ho⟩
    unfold b_X9_wordOrName_2
    refine zT_if1 (by decide) (zT_some (zT_some ?_))
    obtain ⟨x, l', rfl⟩ : ∃ x l', l = x :: l' := by
      cases l with
      | nil => exact absurd rfl h0
      | cons x l' => exact ⟨x, l', rfl⟩
    have hx := h1 x (by simp)
    unfold kT
    dsimp only
    rw [if_pos hx, if_pos h8, wIx_none ho]
    decide
theorem kT_sg : (List.range 256).all (fun x => decide (¬ isL x → ¬ isD x → kB x ≠ 4 → ckF (kT [x]) = kB x ∧ kB x ≠ 2)) = true := by decide +kernel
theorem X9_closed (hp : zRp R) (hw : wdOkC L1) (hB : ∀ i, B i < 256) (hn : n ≤ 2000) (h : scQ B n M L (M1, L1)) : zT (f_X9_close R M1 L1 6 (nI n)) (fun M2 => (∀ j, j < (tsN B n).length → j ≤ 400 → M2 7 j = ckF (kT ((tsN B n).getD j z0T).2) ∧ M2 8 j = nI ((tsN B n).getD j z0T).1) ∧ ((tsN B n).length ≤ 400 → M2 7 (tsN B n).length = 0 ∧ M2 8 (tsN B n).length = nI n) ∧ zag sfA M M2) := by
  obtain ⟨m, m1, m2, m3, h4, h5, h6, h7⟩ := h
  dsimp only at h4 h5 h6 h7
  have hW := (tsW hB n).1
  unfold f_X9_close
  refine zT_bd (zT_w (Q := fun M2 => M2 6 4 = nI m ∧ (∀ j, j < m → M2 7 j = ckF (kT ((tsN B n).getD j z0T).2)) ∧ zag (fun b k => b = 7) M1 M2) ?_ ?_)
  · refine zT_for m (fun k v => v.1 = nI k ∧ (∀ j, j < k → v.2 7 j = ckF (kT ((tsN B n).getD j z0T).2)) ∧ (∀ j, k ≤ j → v.2 7 j = M1 7 j) ∧ zag (fun b k => b = 7) M1 v.2) ⟨rfl, fun j hj => absurd hj (by omega), fun _ _ => rfl, zag.rf⟩ (by omega) ?_ ?_
    · rintro k ⟨y, M2⟩ hk ⟨rfl, g1, g2, g3⟩
      simp only at g1 g2 g3 ⊢
      unfold b_X9_close_2
      have e4 : M2 6 4 = nI m := by rw [g3 6 4 (by omega)]; exact h4
      rw [e4, hp.2.2.2.2.1, hp.2.2.2.2.2.2.1, ztn_nI (by omega)]
      refine zT_if0 (nI_ge hk (by omega)) (zT_if0 (by rw [nI_lit 402]; exact nI_ge (by omega) (by omega)) (zT_ck (zin_nI (by omega) (by omega)) ?_))
      have hX := h5 k hk
      have hw2 := (hW k (by omega)).1
      rw [g2 k (Nat.le_refl _)]
      obtain ⟨t, ht⟩ : ∃ t, (tsN B n).getD k z0T = t := ⟨_, rfl⟩
      have ht2 : (tokS B n).2.getD k z0T = t := ht
      rw [ht2] at hX hw2
      have keep : M1 7 k = ckF (kT t.2) → ∀ j, j < k + 1 → M2 7 j = ckF (kT ((tsN B n).getD j z0T).2) := fun hkk j hj => by
        by_cases e : j = k
        · rw [e, g2 k (Nat.le_refl _), ht]
          exact hkk
        · exact g1 j (by omega)
      rcases hX with ⟨_, ⟨x, e1, e2, e3, e4⟩ | ⟨e1, e2, e3, e4⟩ | ⟨e1, e2, e3, e4⟩⟩
      · obtain ⟨w1, w2⟩ := hw2.2 x e1
        obtain ⟨s1, s2⟩ := of_decide_eq_true (List.all_eq_true.1 kT_sg x (List.mem_range.2 w2)) e2 e3 w1
        refine zT_if0 (by rw [e4]; exact s2) (zT_some ⟨nI_1 k, keep (by rw [e1, e4]; exact s1.symm), fun j hj => g2 j (by omega), g3⟩)
      · by_cases c8 : t.2.length ≤ 8
        · rw [if_pos c8] at e3
          rw [List.take_of_length_le c8] at e4
          refine zT_if1 e3 (zT_ck (zin_nI (by omega) (by omega)) (zT_bd ?_))
          rw [e4]
          refine zT_w (X9_word hp hw e1 e2 c8) ?_
          rintro r rfl
          refine zT_ck (zin_nI (by omega) (by omega)) (zT_lt (zT_some ⟨nI_1 k, fun j hj => ?_, fun j hj => ?_, g3.up rfl⟩))
          · dsimp only
            by_cases e : j = k
            · rw [e, zup_same, ht]
            · rw [zup_k e]
              exact g1 j (by omega)
          · dsimp only
            rw [zup_k (by omega)]
            exact g2 j (by omega)
        · rw [if_neg c8] at e3
          refine zT_if0 (by rw [e3]; decide) (zT_some ⟨nI_1 k, keep ?_, fun j hj => g2 j (by omega), g3⟩)
          rw [e3]
          obtain ⟨x, l', e⟩ : ∃ x l', t.2 = x :: l' := by
            cases hh : t.2 with
            | nil => exact absurd hh e1
            | cons x l' => exact ⟨x, l', rfl⟩
          rw [e] at c8 e2 ⊢
          unfold kT
          dsimp only
          rw [if_pos (e2 x (by simp)), if_neg c8]
          decide
      · obtain ⟨x, l', e⟩ : ∃ x l', t.2 = x :: l' := by
          cases hh : t.2 with
          | nil => exact absurd hh e1
          | cons x l' => exact ⟨x, l', rfl⟩
        have xd := e2 x (by rw [e]; simp)
        have n2 : ¬ M1 7 k = 2 := by
          rw [e3]
          split <;> decide
        refine zT_if0 n2 (zT_some ⟨nI_1 k, keep ?_, fun j hj => g2 j (by omega), g3⟩)
        rw [e3, e]
        unfold kT
        dsimp only
        have nl : ¬ isL x := fun z => by
          have := z.1
          have := xd.2
          omega
        rw [if_neg nl, if_pos xd]
        by_cases c4 : (x :: l').length ≤ 4
        · rw [if_pos c4, if_pos c4]
          decide
        · rw [if_neg c4, if_neg c4]
          decide
    · rintro ⟨y, M2⟩ ⟨rfl, g1, g2, g3⟩
      simp only at g1 g2 g3 ⊢
      unfold b_X9_close_2
      have e4 : M2 6 4 = nI m := by rw [g3 6 4 (by omega)]; exact h4
      exact zT_if1 (by rw [e4]; exact Int32.le_refl _) (zT_some ⟨e4, g1, g3⟩)
  rintro M2 ⟨e4, g1, g3⟩
  have gs : zag sfA M M2 := h6.tr (g3.mo (fun b j q => by unfold sfA; omega))
  rw [e4, hp.2.2.2.2.1, hp.2.2.2.2.2.1, ztn_nI (by omega)]
  refine zT_if0 (nI_pos (by omega)) (zT_if1 (by rw [nI_lit 402]; exact nI_lt (by omega) (by omega)) (zT_ck (zin_nI (by omega) (by omega)) (zT_lt ?_)))
  have e5 : zup M2 7 m 0 6 4 = nI m := by rw [zup_a (by omega)]; exact e4
  rw [e5, ztn_nI (by omega)]
  refine zT_ck (zin_nI (by omega) (by omega)) (zT_lt (zT_some ⟨fun j hj hj4 => ?_, fun hl => ?_, (gs.up (by unfold sfA; omega)).up (by unfold sfA; omega)⟩))
  · have hl : (tsN B n).length = (tokS B n).2.length := rfl
    have hjm : j < m := by omega
    rw [zup_a (by omega), zup_k (by omega), zup_k (by omega), zup_a (by omega)]
    refine ⟨g1 j hjm, ?_⟩
    rw [g3 8 j (by omega)]
    exact (h5 j hjm).1
  · have hl2 : (tsN B n).length = (tokS B n).2.length := rfl
    have hm : m = (tsN B n).length := by omega
    rw [← hm]
    exact ⟨by rw [zup_a (by omega), zup_same], zup_same⟩
end CLS

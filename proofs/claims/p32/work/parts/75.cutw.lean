/-! READ, on the reference's side: the cut, whole -/
theorem tsK {B : Nat → Nat} (hB : ∀ i, B i < 256) : ∀ (i : Nat), (∀ t, t ∈ (tokS B i).2 → tkOk t) ∧ ((tokS B i).1 = 2 → ∀ a p l, (tokS B i).2 = a ++ [(p, l)] → ∀ x, x ∈ l → isL x) ∧ ((tokS B i).1 = 3 → ∀ a p l, (tokS B i).2 = a ++ [(p, l)] → ∀ x, x ∈ l → isD x)
  | 0 => ⟨fun t ht => absurd ht (by show ¬ t ∈ []; simp), fun z => absurd z (show ¬ (4 : Int32) = 2 by decide), fun z => absurd z (show ¬ (4 : Int32) = 3 by decide)⟩
  | i + 1 => by
    obtain ⟨h1, h2, h3⟩ := tsK hB i
    obtain ⟨k2, k3, _⟩ := kB_2 (hB i)
    rw [tokS_s]
    by_cases c4 : kB (B i) = 4
    · rw [if_pos c4]
      exact ⟨h1, fun z => absurd z (show ¬ (4 : Int32) = 2 by decide), fun z => absurd z (show ¬ (4 : Int32) = 3 by decide)⟩
    rw [if_neg c4]
    have lst : ∀ {a b : List zTok} {p q : Nat} {l m : List Nat}, a ++ [(p, l)] = b ++ [(q, m)] → l = m := fun {a b p q l m} e => by
      have := congrArg List.getLast? e
      rw [List.getLast?_append, List.getLast?_append] at this
      simp at this
      exact this.2
    by_cases c2 : kB (B i) = (tokS B i).1 ∧ (kB (B i) = 2 ∨ kB (B i) = 3)
    · rw [if_pos c2]
      dsimp only
      by_cases e0 : (tokS B i).2 = []
      · rw [e0]
        exact ⟨fun t ht => absurd ht (by show ¬ t ∈ []; simp), fun _ a p l e => absurd e.symm (by show ¬ a ++ [(p, l)] = []; simp), fun _ a p l e => absurd e.symm (by show ¬ a ++ [(p, l)] = []; simp)⟩
      obtain ⟨a, ⟨p, l⟩, e⟩ := snoc_of _ e0
      have A2 : kB (B i) = 2 → ∀ x, x ∈ l ++ [B i] → isL x := fun z x hx => by
        rcases List.mem_append.1 hx with q | q
        · exact h2 (c2.1.symm.trans z) a p l e x q
        · rw [List.mem_singleton.1 q]
          exact k2.1 z
      have A3 : kB (B i) = 3 → ∀ x, x ∈ l ++ [B i] → isD x := fun z x hx => by
        rcases List.mem_append.1 hx with q | q
        · exact h3 (c2.1.symm.trans z) a p l e x q
        · rw [List.mem_singleton.1 q]
          exact k3.1 z
      rw [e] at h1 ⊢
      rw [addL_app]
      refine ⟨fun t ht => ?_, fun z b q m e2 => ?_, fun z b q m e2 => ?_⟩
      · rcases List.mem_append.1 ht with w | w
        · exact h1 t (List.mem_append_left _ w)
        · rw [List.mem_singleton.1 w]
          rcases c2.2 with z | z
          · exact Or.inr (Or.inl ⟨by simp, A2 z⟩)
          · exact Or.inr (Or.inr ⟨by simp, A3 z⟩)
      · rw [← lst e2]
        exact A2 z
      · rw [← lst e2]
        exact A3 z
    · rw [if_neg c2]
      dsimp only
      refine ⟨fun t ht => ?_, fun z b q m e2 => ?_, fun z b q m e2 => ?_⟩
      · rcases List.mem_append.1 ht with w | w
        · exact h1 t w
        · rw [List.mem_singleton.1 w]
          by_cases cl : isL (B i)
          · exact Or.inr (Or.inl ⟨by simp, fun x hx => by rw [List.mem_singleton.1 hx]; exact cl⟩)
          by_cases cd : isD (B i)
          · exact Or.inr (Or.inr ⟨by simp, fun x hx => by rw [List.mem_singleton.1 hx]; exact cd⟩)
          · exact Or.inl ⟨B i, rfl, cl, cd⟩
      · rw [← lst e2]
        intro x hx
        rw [List.mem_singleton.1 hx]
        exact k2.1 z
      · rw [← lst e2]
        intro x hx
        rw [List.mem_singleton.1 hx]
        exact k3.1 z
section REF
variable {R : zR} {M M1 M0 : zM} {L L1 L0 : zL} {B : Nat → Nat} {n i : Nat}
theorem X12_cut (hR : zMd R) (hw : wdOkR L) (hb : btR M B n) (hB : ∀ j, B j < 256) : zT (f_X12_cut R M L 242) (fun p => tkR p.1 (kN B n) (vN B n) (pN B n) (cN B n) ∧ (∀ i j, i ≤ cN B n → j ≤ cN B n → kN B n i = 1 → kN B n j = 1 → (eN B n i j = true ↔ p.2 248 i = p.2 248 j)) ∧ zag cuA M p.1 ∧ ∀ b j, b ≠ 248 → p.2 b j = L b j) := by
  have n2 := hb.1
  unfold f_X12_cut
  have g0 : zag cuA M (zup M 242 10 0) := zag.rf.up (Or.inl ⟨rfl, rfl⟩)
  have v0 : zup M 242 10 0 242 10 = 0 := zup_same
  refine zT_lt ?_
  generalize zup M 242 10 0 = M0 at g0 v0 ⊢
  have hb0 : btR M0 B n := ⟨n2, by rw [g0 242 4 (by unfold cuA; omega)]; exact hb.2.1, fun j hj => by rw [g0 244 j (by unfold cuA; omega)]; exact hb.2.2 j hj⟩
  have fin : ∀ (M1 : zM) (L1 : zL), (∀ j, j < (tsN B n).length → j ≤ 400 → tkY M1 L1 j ((tsN B n).getD j z0T)) → ((tsN B n).length ≤ 400 → M1 245 (tsN B n).length = 0 ∧ M1 246 (tsN B n).length = nI n) → zag cuA M0 M1 → (∀ b j, b ≠ 248 → L1 b j = L b j) → tkR M1 (kN B n) (vN B n) (pN B n) (cN B n) ∧ (∀ i j, i ≤ cN B n → j ≤ cN B n → kN B n i = 1 → kN B n j = 1 → (eN B n i j = true ↔ L1 248 i = L1 248 j)) ∧ zag cuA M M1 ∧ ∀ b j, b ≠ 248 → L1 b j = L b j := fun M1 L1 a1 a2 a3 a4 => by
    have tkL : ∀ i, i ≤ cN B n → kN B n i = 1 → L1 248 i = e27 ((tsN B n).getD i z0T).2 ∧ ((tsN B n).getD i z0T).2.length ≤ 8 ∧ ∀ x, x ∈ ((tsN B n).getD i z0T).2 → isL x := fun i hi hk => by
      unfold cN at hi
      unfold kN at hk
      by_cases c : i < (tsN B n).length
      case neg =>
        rw [if_neg c] at hk
        exact absurd hk (by decide)
      rw [if_pos c] at hk
      obtain ⟨x, l, e1, e2, e3⟩ := (kT_f _).2.1 hk
      have hm : (tsN B n).getD i z0T ∈ tsN B n := by
        rw [List.getD_eq_getElem?_getD, List.getElem?_eq_getElem c]
        exact List.getElem_mem c
      refine ⟨(a1 i c (by omega)).2.2.2 hk, e3, ?_⟩
      rcases (tsK hB n).1 _ hm with ⟨y, f1, f2, f3⟩ | ⟨f1, f2⟩ | ⟨f1, f2⟩
      · rw [e1] at f1
        obtain ⟨q1, q2⟩ := List.cons.inj f1
        rw [q1] at e2
        exact absurd e2 f2
      · exact f2
      · have := f2 x (by rw [e1]; simp)
        exfalso
        have q1 := e2.1
        have q2 := this.2
        omega
    refine ⟨⟨by unfold cN; omega, fun i hi => ⟨?_, ?_, fun hk => ?_⟩⟩, fun i j hi hj ki kj => ?_, g0.tr a3, a4⟩
    · unfold cN at hi
      unfold kN
      by_cases c : i < (tsN B n).length
      · rw [if_pos c]
        exact (a1 i c (by omega)).1
      · rw [if_neg c]
        have hl : i = (tsN B n).length := by omega
        rw [hl]
        exact (a2 (by omega)).1
    · unfold cN at hi
      unfold pN
      by_cases c : i < (tsN B n).length
      · rw [if_pos c]
        exact (a1 i c (by omega)).2.1
      · rw [if_neg c]
        have hl : i = (tsN B n).length := by omega
        rw [hl]
        exact (a2 (by omega)).2
    · unfold cN at hi
      unfold kN at hk
      unfold vN
      by_cases c : i < (tsN B n).length
      · rw [if_pos c] at hk ⊢
        exact (a1 i c (by omega)).2.2.1 hk
      · rw [if_neg c] at hk
        exact absurd hk (by decide)
    · obtain ⟨b1, b2, b3⟩ := tkL i hi ki
      obtain ⟨c1, c2, c3⟩ := tkL j hj kj
      rw [b1, c1, e27_i b2 c2 b3 c3]
      unfold eN
      rw [decide_eq_true_iff]
  refine zT_bd (zT_w (zT_loop (Q := cuQ B n M0 L) (cuI B n M0 L) (n - 0) ⟨0, rfl, Nat.zero_le _, rfl, fun _ w => n423 (by rw [← (show kB (B 0) = 4 from w.1)]; exact w.2), Nat.zero_le _, v0, fun j hj => absurd hj (by show ¬ j < 0; omega), zag.rf, fun _ _ _ => rfl⟩ (by omega) (fun m v h => X12_step hR hw hb0 hB h)) ?_)
  rintro (⟨M1, L1⟩ | ⟨M1, L1⟩) h
  · obtain ⟨hl, h1, h2, h3, h4⟩ := h
    dsimp only at h1 h2 h3 h4
    show zT (zbd2 (f_X12_token R M1 L1 242 0 (M1 242 4) 0 0) fun M58 L59 => some (M58, L59)) _
    refine zT_bd2 (zT_w (X12_token hR h1 (by omega) 0 (M1 242 4) 0 0) ?_)
    rintro ⟨M2, L2⟩ ⟨a1, a2, a3, a4, a5, g, gL⟩
    dsimp only at a1 a2 a3 a4 a5 g gL ⊢
    refine zT_some (fin M2 L2 (fun j hj _ => (h2 j hj).eq (g _ _ (by omega)) (g _ _ (by omega)) (g _ _ (by omega)) (gL _ _ (by omega))) (fun _ => ⟨a2, by rw [a3, h3 242 4 (by unfold cuA; omega)]; exact hb0.2.1⟩) (h3.tr (g.mo (fun b k q => by unfold cuA; omega))) (fun b j hb => (gL b j (by omega)).trans (h4 b j hb)))
  · obtain ⟨hl, h2, h3, h4⟩ := h
    dsimp only at h2 h3 h4
    show zT (some (M1, L1)) _
    exact zT_some (fin M1 L1 (fun j _ hj => h2 j (by omega)) (fun z => absurd z (by omega)) h3 h4)
end REF

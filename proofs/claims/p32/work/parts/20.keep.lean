/-! ROWS COPIED, KEPT, TAKEN BACK -/
def eq60 (u v : Nat → Int32) : Prop := ∀ k, k < 60 → u k = v k
theorem eq60.rf {u : Nat → Int32} : eq60 u u := fun _ _ => rfl
theorem eq60.sy {u v : Nat → Int32} (h : eq60 u v) : eq60 v u := fun k hk => (h k hk).symm
theorem eq60.tr {u v x : Nat → Int32} (h : eq60 u v) (h2 : eq60 v x) : eq60 u x := fun k hk => (h k hk).trans (h2 k hk)
theorem RW.to60 {M : zM} {r n : Nat} {w w1 : Nat → Int32} (h : RW M r n w) (e : eq60 w1 w) : RW M r n w1 := by
  have hn := h.1
  exact h.to (fun k q1 q2 => e k (by omega)) (fun p j q1 q2 => e _ (by omega))
theorem zGd.to60 {n T S : Nat} {w w1 : Nat → Int32} (h : zGd n T S w) (e : eq60 w1 w) : zGd n T S w1 := by
  obtain ⟨h0, h1, ⟨s, hs, es⟩, p, q, pot, h3, h4, h5⟩ := h
  refine ⟨h0, by rw [e 40 (by omega)]; exact h1, ⟨s, hs, by rw [e 43 (by omega)]; exact es⟩, p, q, pot, fun j hj => ?_, by rw [e 41 (by omega)]; exact h4, h5⟩
  rw [e j (by omega), e (10 + j) (by omega)]
  exact h3 j hj
/-- a counted copy of one array into another -/
theorem zCopy {b : Int32 × zM → Option ((Int32 × zM) ⊕ zM)} {M : zM} {A B f g c : Nat} (hc : c < 999999) (hs : ∀ (k : Nat) (M1 : zM), k < c → zag (fun a _ => a = A) M M1 → (∀ j, f + k ≤ j → M1 A j = M A j) → b (nI k, M1) = some (.inl (nI k + 1, zup M1 A (f + k) (M1 B (g + k))))) (he : ∀ M1 : zM, zag (fun a _ => a = A) M M1 → b (nI c, M1) = some (.inr M1)) (hAB : A = B → f ≤ g) : zT (zloop zN b ((0 : Int32), M)) (fun M1 => (∀ j, M1 A j = if f ≤ j ∧ j < f + c then M B (g + (j - f)) else M A j) ∧ zag (fun a _ => a = A) M M1) := by
  refine zT_for c (fun k v => v.1 = nI k ∧ (∀ j, v.2 A j = if f ≤ j ∧ j < f + k then M B (g + (j - f)) else M A j) ∧ zag (fun a _ => a = A) M v.2) ⟨rfl, fun j => by rw [if_neg (by omega)], zag.rf⟩ hc ?_ ?_
  · rintro k ⟨x, M1⟩ hk ⟨rfl, e1, g1⟩
    simp only at e1 g1
    refine zT_eq (hs k M1 hk g1 (fun j hj => by rw [e1, if_neg (by omega)])) ⟨nI_1 k, fun j => ?_, g1.up rfl⟩
    have src : M1 B (g + k) = M B (g + k) := by
      by_cases e : A = B
      · subst e
        rw [e1, if_neg (by have := hAB rfl; omega)]
      · exact g1 B _ (fun q => e q.symm)
    rw [src]
    show zup M1 A (f + k) (M B (g + k)) A j = _
    by_cases e : j = f + k
    · subst e
      rw [zup_same, if_pos (by omega)]
      congr 1
      omega
    · rw [zup_k e, e1]
      by_cases e2 : f ≤ j ∧ j < f + k
      · rw [if_pos e2, if_pos (by omega)]
      · rw [if_neg e2, if_neg (by omega)]
  · rintro ⟨x, M1⟩ ⟨rfl, e1, g1⟩
    simp only at e1 g1
    exact zT_eq (he M1 g1) ⟨e1, g1⟩
/-- what 'row' holds once 'now' is copied into it -/
def rowF (M : zM) : Nat → Int32 := fun k => if k < 60 then M 270 k else M 271 k
theorem rowF60 (M : zM) : eq60 (rowF M) (M 270) := fun k hk => if_pos hk
theorem X12_copies {R : zR} {M : zM} (hR : zMd R) : zT (f_X12_copies R M 242) (fun M1 => M1 271 = rowF M ∧ zag (fun b _ => b = 271) M M1) := by
  unfold f_X12_copies
  have r45 : R 242 45 = 270 := hR.at rfl (by decide)
  have r46 : R 242 46 = 271 := hR.at rfl (by decide)
  refine zT_bd (zT_w (zCopy (A := 271) (B := 270) (f := 0) (g := 0) (c := 60) (by omega) ?_ ?_ (fun e => Nat.le_refl _)) ?_)
  · intro k M1 hk _ _
    show b_X12_copies_2 R M1 242 (nI k) = _
    unfold b_X12_copies_2
    rw [r45, r46, nI_lit 60, if_neg (nI_ge hk (by omega)), ztn_nI (by omega), Nat.zero_add]
    unfold zck
    rw [if_pos (zin_nI hk (by omega)), if_pos (zin_nI hk (by omega))]
    rfl
  · intro M1 _
    show b_X12_copies_2 R M1 242 (nI 60) = _
    unfold b_X12_copies_2
    rw [if_pos (by decide)]
  · rintro M1 ⟨e1, g1⟩
    refine zT_some ⟨funext fun j => ?_, g1⟩
    rw [e1]
    unfold rowF
    by_cases e : j < 60
    · rw [if_pos e, if_pos (by omega), Nat.zero_add, Nat.sub_zero]
    · rw [if_neg e, if_neg (by omega)]
theorem X12_isHouse {R : zR} {M : zM} (hR : zMd R) {n : Nat} (hn : n ≤ 10) (hw : M 270 40 = nI n) (x : Int32) : ∃ b : Int32, (b = 0 ∨ b = 1) ∧ f_X12_isHouse R M 242 x = some b ∧ (b ≠ 0 → ∃ h, h < n ∧ x = nI h) ∧ (b = 0 → x < 0 ∨ nI n ≤ x) := by
  unfold f_X12_isHouse f_X12_in
  have e : M (R 242 45) (ztn (40 : Int32)) = nI n := by rw [hR.at (k := 45) (b := 270) rfl (by decide)]; exact hw
  rw [e]
  have fin : ∀ b : Int32, b = 0 ∨ b = 1 → zbd (some b) (fun r1 => zck (zbool r1) (some r1)) = some b := fun b hb => by
    rcases hb with rfl | rfl <;> rfl
  rcases nI_cases x n (by omega) with ⟨h, hh, rfl⟩ | hx
  · refine ⟨1, Or.inr rfl, ?_, fun _ => ⟨h, hh, rfl⟩, fun q => absurd q (by decide)⟩
    rw [if_neg (nI_pos (by omega)), nI_sub1 (by omega), if_neg (nI_nlt (by omega) (by omega))]
    exact fin 1 (Or.inr rfl)
  · refine ⟨0, Or.inl rfl, ?_, fun q => absurd rfl q, fun _ => hx⟩
    by_cases h0 : x < 0
    · rw [if_pos h0]
      exact fin 0 (Or.inl rfl)
    · rw [if_neg h0]
      have hx2 : nI n ≤ x := hx.resolve_left h0
      have : nI n - 1 < x := by
        by_cases hn0 : n = 0
        · subst hn0
          obtain ⟨j, hj, rfl⟩ := nI_of h0
          refine Int32.lt_of_lt_of_le ?_ (nI_pos' hj)
          decide
        · rw [nI_sub1 (by omega)]
          exact Int32.lt_of_lt_of_le (nI_lt (by omega) (by omega)) hx2
      rw [if_pos this]
      exact fin 0 (Or.inl rfl)

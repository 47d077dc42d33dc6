/-! ROWS THAT FIT: how many rows, what is known, the reference's rows -/
theorem nI_dec1 {L j : Nat} (hL : L ≤ 10) (hj : j ≤ 10) : (nI L + (-1) < nI j ↔ L ≤ j) := by
  by_cases h : L = 0
  · subst h
    exact ⟨fun _ => Nat.zero_le _, fun _ => Int32.lt_of_lt_of_le (by decide) (nI_pos' (by omega))⟩
  · rw [nI_dec (by omega), nI_ltI (by omega) (by omega)]
    omega
def knW (M : zM) : Nat → Nat → Int32
  | 0, _ => -1
  | i + 1, h => if M 208 i = nI h then M 209 i else knW M i h
theorem knW_in {M : zM} (h : zTo M) : ∀ k, nI k ≤ M 242 53 → k ≤ 20 → ∀ j, knW M k j = -1 ∨ ∃ p, p ≤ 9999 ∧ knW M k j = nI p
  | 0, _, _, _ => Or.inl rfl
  | k + 1, hk, hk20, j => by
    obtain ⟨t, t1, t2, t3, t4⟩ := id h
    have hkt : k + 1 ≤ t := by
      rw [t3, nI_leI (by omega) (by omega)] at hk
      exact hk
    have ih := knW_in h k (by rw [t3, nI_leI (by omega) (by omega)]; omega) (by omega) j
    show (if M 208 k = nI j then M 209 k else knW M k j) = -1 ∨ ∃ p, p ≤ 9999 ∧ (if M 208 k = nI j then M 209 k else knW M k j) = nI p
    by_cases c : M 208 k = nI j
    · rw [if_pos c]
      exact Or.inr (t4 k (by omega)).2.2.2
    · rw [if_neg c]
      exact ih
section TRY
variable {R : zR} {M : zM} {ru : zRu} {q l n T S u x : Nat}
theorem X10_rowsUp {most : Nat} (hm : most ≤ 20) (hn : n ≤ 10) : zT (f_X10_rowsUpTo 207 (nI most) (nI n)) (fun y => y ≤ 200000 ↔ (most + 1) ^ n ≤ 200000) := by
  unfold f_X10_rowsUpTo
  refine zT_bd ?_
  refine zT_for n (fun i v => v.1 = nI ((most + 1) ^ i) ∧ v.2 = nI i ∧ (most + 1) ^ i ≤ 4200000) ⟨rfl, rfl, by simp⟩ (by omega) ?_ ?_
  · rintro i ⟨y, z⟩ hi ⟨rfl, rfl, hb⟩
    simp only at hb ⊢
    unfold b_X10_rowsUpTo_5
    refine zT_if0 (nI_ge hi (by omega)) ?_
    by_cases c : 200000 < (most + 1) ^ i
    · refine zT_if1 (by rw [nI_lit 200000]; exact nI_lt c (by omega)) (zT_some (zT_some ?_))
      have hle : (most + 1) ^ i ≤ (most + 1) ^ n := Nat.pow_le_pow_right (by omega) (by omega)
      rw [nI_lit 200000, nI_leI (by omega) (by omega)]
      omega
    · refine zT_if0 (by rw [nI_lit 200000]; exact nI_nlt (by omega) (by omega)) (zT_some ⟨?_, nI_1 _, ?_⟩)
      · rw [nI_1, pk_mul, ← Nat.pow_succ]
      · rw [Nat.pow_succ]
        have : (most + 1) ^ i * (most + 1) ≤ 200000 * 21 := Nat.mul_le_mul (by omega) (by omega)
        omega
  · rintro ⟨y, z⟩ ⟨rfl, rfl, hb⟩
    simp only at hb ⊢
    unfold b_X10_rowsUpTo_5
    refine zT_if1 (nI_le (Nat.le_refl _) (by omega)) (zT_some (zT_some ?_))
    rw [nI_lit 200000, nI_leI (by omega) (by omega)]
theorem X12_rowsOf (h : zSt R M ru q l n T S u x) {most : Nat} (hm : most ≤ 20) : zT (f_X12_rowsOf R M 242 (nI most)) (fun y => ((most + 1) ^ n ≤ 200000 ∧ y = nI ((most + 1) ^ n)) ∨ (¬ (most + 1) ^ n ≤ 200000 ∧ y = -2)) := by
  have hn := h.n10
  have f40 : M 270 (ztn (40 : Int32)) = nI n := h.n40
  unfold f_X12_rowsOf
  refine zT_bd ?_
  refine zT_for n (fun i v => v.1 = nI ((most + 1) ^ i) ∧ v.2 = nI i ∧ (most + 1) ^ i ≤ 200000) ⟨rfl, rfl, by simp⟩ (by omega) ?_ ?_
  · rintro i ⟨y, z⟩ hi ⟨rfl, rfl, hb⟩
    simp only at hb ⊢
    unfold b_X12_rowsOf_4
    have e : nI ((most + 1) ^ i) * (nI most + 1) = nI ((most + 1) ^ (i + 1)) := by rw [nI_1, pk_mul, ← Nat.pow_succ]
    have b2 : (most + 1) ^ (i + 1) ≤ 4200000 := by
      rw [Nat.pow_succ]
      have : (most + 1) ^ i * (most + 1) ≤ 200000 * 21 := Nat.mul_le_mul (by omega) (by omega)
      omega
    rw [h.r45, f40, e, nI_lit 200000]
    refine zT_if0 (nI_ge hi (by omega)) ?_
    by_cases c : (most + 1) ^ (i + 1) ≤ 200000
    · exact zT_if1 (nI_le c (by omega)) (zT_some ⟨rfl, nI_1 _, c⟩)
    · refine zT_if0 (nI_ge (by omega) (by omega)) (zT_some (zT_some (Or.inr ⟨?_, rfl⟩)))
      have hle : (most + 1) ^ (i + 1) ≤ (most + 1) ^ n := Nat.pow_le_pow_right (by omega) (by omega)
      omega
  · rintro ⟨y, z⟩ ⟨rfl, rfl, hb⟩
    simp only at hb ⊢
    unfold b_X12_rowsOf_4
    rw [h.r45, f40]
    exact zT_if1 (nI_le (Nat.le_refl _) (by omega)) (zT_some (zT_some (Or.inl ⟨hb, rfl⟩)))
theorem X10_goFits (h : zSt R M ru q l n T S u x) {most hh k : Nat} (hm : most ≤ 20) (hm1 : 1 ≤ most) (hN : (most + 1) ^ n ≤ 200000) (hhh : hh < 10) (hk : nI k ≤ M 242 53) (hk20 : k ≤ 20) {ans : Nat × Nat × Nat} (hA : aggF (goP n (most + 1) ru (rowF M) 0 (knW M k) (fun _ => 0)) (fun k => dig (most + 1) k hh) most ((most + 1) ^ n) = ans) :
    zT (f_X10_goThroughFits R M 207 q 13 (nI most) (nI k) (nI hh)) (fun M1 => M1 207 8 = nI ans.1 ∧ (hh < n → M1 207 9 = nI ans.2.1 ∧ M1 207 10 = nI ans.2.2) ∧ zag zsk M M1) := by
  have hn := h.n10
  obtain ⟨_, _, _, _, _, _, _, _, t0, t1, t2, t3, t4, t5, t6⟩ := id h.rt
  obtain ⟨t, tt1, tt2, tt3, tt4⟩ := h.to
  have hkt : k ≤ t := by
    rw [tt3, nI_leI (by omega) (by omega)] at hk
    exact hk
  unfold f_X10_goThroughFits
  refine zT_lt (zT_bd ?_)
  refine zT_w (Q := fun M1 : zM => M1 207 7 = -1 ∧ (∀ i, i < 10 → M1 210 i = -1 ∧ M1 211 i = 0) ∧ zag (fun b k => b = 210 ∨ b = 211 ∨ (b = 207 ∧ k = 7)) M M1) (zT_for 10 (fun i v => v.1 = nI i ∧ v.2 207 7 = -1 ∧ (∀ j, j < i → v.2 210 j = -1 ∧ v.2 211 j = 0) ∧ zag (fun b k => b = 210 ∨ b = 211 ∨ (b = 207 ∧ k = 7)) M v.2) ⟨rfl, by dsimp only; exact zup_same, fun j hj => absurd hj (by omega), zag.rf.up (by omega)⟩ (by omega) ?_ ?_) ?_
  · rintro i ⟨y, M1⟩ hi ⟨rfl, e1, d1, g1⟩
    simp only at e1 d1 g1 ⊢
    have hz := zin_nI (k := i) (n := 10) (by omega) (by omega)
    unfold b_X10_goThroughFits_8
    rw [t2, t3, ztn_nI (by omega)]
    refine zT_if0 (by rw [nI_lit 10]; exact nI_ge (by omega) (by omega)) (zT_ck hz (zT_lt (zT_ck hz (zT_lt (zT_some ⟨nI_1 _, ?_, fun j hj => ?_, (g1.up (by omega)).up (by omega)⟩)))))
    · show zup (zup M1 210 i (-1)) 211 i 0 207 7 = -1
      rw [zup_a (by omega), zup_a (by omega)]
      exact e1
    · show zup (zup M1 210 i (-1)) 211 i 0 210 j = -1 ∧ zup (zup M1 210 i (-1)) 211 i 0 211 j = 0
      rw [zup_a (a := 211) (b := 210) (by omega)]
      by_cases c : j = i
      · subst c
        rw [zup_same, zup_same]
        exact ⟨rfl, rfl⟩
      · rw [zup_k c, zup_k c, zup_a (by omega)]
        exact d1 j (by omega)
  · rintro ⟨y, M1⟩ ⟨rfl, e1, d1, g1⟩
    simp only at e1 d1 g1 ⊢
    unfold b_X10_goThroughFits_8
    exact zT_if1 (by decide) (zT_some ⟨e1, d1, g1⟩)
  rintro M1 ⟨e1, d1, g1⟩
  refine zT_bd ?_
  refine zT_w (Q := fun M2 : zM => (∃ L, L ≤ n ∧ M2 207 7 = nI L + (-1) ∧ ∀ j, j < n → L ≤ j → knW M k j = -1) ∧ (∀ j, j < n → M2 210 j = knW M k j) ∧ (∀ j, j < 10 → M2 211 j = 0) ∧ zag (fun b k => b = 210 ∨ b = 211 ∨ (b = 207 ∧ k = 7)) M M2) (zT_for k (fun i v => v.1 = nI i ∧ (∃ L, L ≤ n ∧ v.2 207 7 = nI L + (-1) ∧ ∀ j, j < n → L ≤ j → knW M i j = -1) ∧ (∀ j, j < n → v.2 210 j = knW M i j) ∧ (∀ j, j < 10 → v.2 211 j = 0) ∧ zag (fun b k => b = 210 ∨ b = 211 ∨ (b = 207 ∧ k = 7)) M v.2) ⟨rfl, ⟨0, by omega, e1, fun j _ _ => rfl⟩, fun j hj => (d1 j (by omega)).1, fun j hj => (d1 j hj).2, g1⟩ (by omega) ?_ ?_) ?_
  · rintro i ⟨y, M2⟩ hi ⟨rfl, ⟨L, hL, eL, oL⟩, d2, z2, g2⟩
    simp only at eL d2 z2 g2 ⊢
    obtain ⟨_, _, ⟨hs, hs10, es⟩, p, hp, ep⟩ := tt4 i (by omega)
    have hz := zin_nI (k := i) (n := 20) (by omega) (by omega)
    have h2 : RW M2 13 n (M 270) := h.rw0.cells (fun a k q1 q2 => g2 a k (by omega))
    unfold b_X10_goThroughFits_40
    have c6 : M2 207 6 = nI t := by rw [g2 207 6 (by omega)]; exact tt2
    have c8 : M2 208 i = nI hs := by rw [g2 208 i (by omega)]; exact es
    have c9 : M2 209 i = M 209 i := g2 209 i (by omega)
    rw [c6, t0, t1, t2, ztn_nI (by omega), c8]
    have kS : ∀ j, j < 10 → knW M (i + 1) j = if hs = j then M 209 i else knW M i j := fun j hj => by
      show (if M 208 i = nI j then M 209 i else knW M i j) = _
      rw [es]
      by_cases c : hs = j
      · subst c
        rw [if_pos rfl, if_pos rfl]
      · rw [if_neg (fun q => c (nI_inj (by omega) (by omega) q)), if_neg c]
    refine zT_if0 (nI_ge hi (by omega)) (zT_if0 (nI_ge (by omega) (by omega)) (zT_if0 (by rw [nI_lit 20]; exact nI_ge (by omega) (by omega)) (zT_ck hz (zT_bd ?_))))
    by_cases hsn : hs < n
    · have hz2 := zin_nI (k := hs) (n := 10) (by omega) (by omega)
      refine zT_eq (hz_yes h2 hsn) (zT_if0 (by decide) (zT_ck hz (zT_ck hz (zT_ck hz2 (zT_lt (zT_ck hz (zT_lt (zT_some ⟨nI_1 _, ?_, fun j hj => ?_, fun j hj => ?_, (g2.up (by omega)).up (by omega)⟩))))))))
      · have v7 : zup M2 210 (ztn (nI hs)) (M2 209 i) 207 7 = nI L + (-1) := by rw [zup_a (by omega)]; exact eL
        have v8 : zup M2 210 (ztn (nI hs)) (M2 209 i) 208 i = nI hs := by rw [zup_a (by omega)]; exact c8
        refine ⟨if L ≤ hs then hs + 1 else L, by split <;> omega, ?_, fun j hj hl => ?_⟩
        · dsimp only
          rw [zup_same, v7, v8]
          by_cases c : L ≤ hs
          · rw [if_pos ((nI_dec1 (by omega) (by omega)).2 c), if_pos c, nI_dec (by omega)]
            rfl
          · rw [if_neg (fun q => c ((nI_dec1 (by omega) (by omega)).1 q)), if_neg c]
        · have hne : hs ≠ j ∧ L ≤ j := by
            by_cases c : L ≤ hs
            · rw [if_pos c] at hl; omega
            · rw [if_neg c] at hl; omega
          rw [kS j (by omega), if_neg hne.1]
          exact oL j hj hne.2
      · dsimp only
        rw [zup_a (by omega), ztn_nI (by omega), kS j (by omega), c9]
        by_cases c : hs = j
        · subst c
          rw [zup_same, if_pos rfl]
        · rw [zup_k (Ne.symm c), if_neg c]
          exact d2 j hj
      · dsimp only
        rw [zup_a (by omega), zup_a (by omega)]
        exact z2 j hj
    · refine zT_eq (hz_no h2 (Or.inr (nI_le (by omega) (by omega)))) (zT_if1 rfl (zT_some ⟨nI_1 _, ⟨L, hL, eL, fun j hj hl => ?_⟩, fun j hj => ?_, z2, g2⟩))
      · rw [kS j (by omega), if_neg (by omega)]
        exact oL j hj hl
      · rw [kS j (by omega), if_neg (by omega)]
        exact d2 j hj
  · rintro ⟨y, M2⟩ ⟨rfl, ⟨L, hL, eL, oL⟩, d2, z2, g2⟩
    simp only at eL d2 z2 g2 ⊢
    unfold b_X10_goThroughFits_40
    exact zT_if1 (nI_le (Nat.le_refl _) (by omega)) (zT_some ⟨⟨L, hL, eL, oL⟩, d2, z2, g2⟩)
  rintro M2 ⟨⟨L, hL, eL, oL⟩, d2, z2, g2⟩
  have gk : zag zsk M M2 := g2.mo (fun b k e => by unfold zsk; omega)
  have h2 := h.sc (zsk.sc gk)
  have f2 := zsk.rws gk
  refine zT_bd (zT_w (X10_go h2 (ans := ans) (x5 := 0) (lo := fun _ => 0) (kn := knW M k) (L := L) hm hm1 hN hhh (fun i hi => ⟨z2 i (by omega), by omega⟩) (fun _ => d2) hL (fun i hi => by rw [eL]; exact nI_dec1 (by omega) hi) (fun _ => oL) (fun q => absurd rfl q) (by rw [f2]; exact hA)) ?_)
  rintro M3 ⟨a8, a9, g3⟩
  exact zT_some ⟨a8, a9, gk.tr g3⟩
theorem X12_takesRow (h : zSt R M ru q l n T S u x) {most k : Nat} (hm : most ≤ 20) (hk : k < 2147483648) : zT (f_X12_takesRow R M 242 (nI k) (nI most)) (fun M1 => M1 271 = baseF n (most + 1) k (rowF M) ∧ zag (fun b _ => b = 271) M M1) := by
  have hn := h.n10
  unfold f_X12_takesRow
  refine zT_bd (zT_w (X12_copies h.md) ?_)
  rintro M1 ⟨e1, g1⟩
  refine zT_bd ?_
  refine zT_for n (fun i v => v.1 = nI (k / (most + 1) ^ i) ∧ v.2.1 = nI i ∧ (∀ j, v.2.2 271 j = if j < i then nI (dig (most + 1) k j) else if 10 ≤ j ∧ j < 10 + i then 0 else rowF M j) ∧ zag (fun b _ => b = 271) M v.2.2) ⟨by simp, rfl, fun j => by rw [if_neg (by omega), if_neg (by omega)]; show M1 271 j = _; rw [e1], g1⟩ (by omega) ?_ ?_
  · rintro i ⟨y, z, M2⟩ hi ⟨rfl, rfl, e2, g2⟩
    simp only at e2 g2 ⊢
    unfold b_X12_takesRow_9
    have f40 : M2 271 (ztn (40 : Int32)) = nI n := by
      show M2 271 40 = nI n
      rw [e2, if_neg (by omega), if_neg (by omega)]
      exact h.gd.2.1
    have hz : znz (nI most + 1) = true := by
      unfold znz
      rw [nI_1, decide_eq_false (nI_ne0 (by omega) (by omega))]
      rfl
    have dl : k / (most + 1) ^ i < 2147483648 := Nat.lt_of_le_of_lt (Nat.div_le_self _ _) hk
    rw [h.r46, f40]
    refine zT_if0 (nI_ge hi (by omega)) (zT_ck hz (zT_ck (zin_nI (by omega) (by omega)) (zT_lt ?_)))
    rw [nI_lit 10, nI_add]
    refine zT_ck (zin_nI (by omega) (by omega)) (zT_lt (zT_ck hz (zT_some ⟨?_, nI_1 _, fun j => ?_, z271.up (z271.up g2)⟩)))
    · show nI (k / (most + 1) ^ i) / (nI most + 1) = _
      rw [nI_1, pk_div (by omega) (by omega) (by omega), Nat.div_div_eq_div_mul, ← Nat.pow_succ]
    · show zup (zup M2 271 (ztn (nI i)) _) 271 (ztn (nI (10 + i))) 0 271 j = _
      rw [ztn_nI (by omega), ztn_nI (by omega), nI_1, pk_rem (by omega) (by omega) (by omega)]
      by_cases c : j = 10 + i
      · subst c
        rw [zup_same, if_neg (by omega), if_pos (by omega)]
      · rw [zup_k c]
        by_cases c2 : j = i
        · subst c2
          rw [zup_same, if_pos (by omega)]
          rfl
        · rw [zup_k c2, e2]
          by_cases c3 : j < i
          · rw [if_pos c3, if_pos (by omega)]
          · rw [if_neg c3, if_neg (show ¬ j < i + 1 by omega)]
            by_cases c4 : 10 ≤ j ∧ j < 10 + i
            · rw [if_pos c4, if_pos (show 10 ≤ j ∧ j < 10 + (i + 1) by omega)]
            · rw [if_neg c4, if_neg (show ¬ (10 ≤ j ∧ j < 10 + (i + 1)) by omega)]
  · rintro ⟨y, z, M2⟩ ⟨rfl, rfl, e2, g2⟩
    simp only at e2 g2 ⊢
    unfold b_X12_takesRow_9
    have f40 : M2 271 (ztn (40 : Int32)) = nI n := by
      show M2 271 40 = nI n
      rw [e2, if_neg (by omega), if_neg (by omega)]
      exact h.gd.2.1
    rw [h.r46, f40]
    refine zT_if1 (nI_le (Nat.le_refl _) (by omega)) (zT_some (zT_some ⟨?_, g2⟩))
    funext j
    exact e2 j
theorem sumN_c {p : Nat → Nat} {c : Nat} : ∀ k, (∀ i, i < k → p i ≤ c) → sumN p k ≤ k * c
  | 0, _ => by simp [sumN]
  | k + 1, h => by
    have := sumN_c (p := p) (c := c) k (fun i hi => h i (by omega))
    have := h k (by omega)
    rw [Nat.succ_mul]
    unfold sumN
    omega
theorem zGd.base {W : Nat → Int32} {n T S B k : Nat} (h : zGd n T S W) (hB : 0 < B) (hB2 : B ≤ 21) : zGd n (T + 200) S (baseF n B k W) := by
  obtain ⟨h0, h1, ⟨s, hs, es⟩, p, q, pot, hp, h4, h5⟩ := h
  have hi : ∀ j, 20 ≤ j → baseF n B k W j = W j := fun j hj => by unfold baseF; rw [if_neg (by omega), if_neg (by omega)]
  refine ⟨h0, by rw [hi 40 (by omega)]; exact h1, ⟨s, hs, by rw [hi 43 (by omega)]; exact es⟩, dig B k, fun _ => 0, pot, fun i hin => ⟨?_, ?_, Nat.zero_le _⟩, by rw [hi 41 (by omega)]; exact h4, ?_⟩
  · unfold baseF
    rw [if_pos hin]
  · unfold baseF
    rw [if_neg (by omega), if_pos (by omega)]
    rfl
  · have := sumN_c (p := dig B k) (c := 20) n (fun i _ => by have := dig_lt (B := B) (k := k) (i := i) hB; omega)
    have h2 : n * 20 ≤ 200 := by omega
    omega
end TRY

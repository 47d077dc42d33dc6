/-! SITE, FREE -/
theorem sumN_mono {f p : Nat → Nat} : ∀ k, (∀ i, i < k → f i ≤ p i) → sumN f k ≤ sumN p k
  | 0, _ => Nat.le_refl _
  | k + 1, h => by
    have := sumN_mono k (fun i hi => h i (by omega))
    have := h k (by omega)
    unfold sumN
    omega
theorem sumN_up {p : Nat → Nat} {k n : Nat} (h : k ≤ n) : sumN p k ≤ sumN p n := by
  induction n with
  | zero => rw [show k = 0 by omega]; exact Nat.le_refl _
  | succ n ih =>
    by_cases e : k = n + 1
    · rw [e]; exact Nat.le_refl _
    · have := ih (by omega)
      show sumN p k ≤ sumN p n + p n
      omega
theorem want_sum {n T S : Nat} {w : Nat → Int32} {ru : zRu} (h : zGd n T S w) (hT : T < 2147483648) : (∀ i, i < n → wantF n ru w i = nI (ztn (wantF n ru w i)) ∧ ztn (wantF n ru w i) < 2147483648) ∧ ∀ k, k ≤ n → sumN (fun i => ztn (wantF n ru w i)) k ≤ T := by
  obtain ⟨_, _, _, p, q, pot, hp, _, hs⟩ := id h
  have key : ∀ i, i < n → wantF n ru w i = nI (ztn (wantF n ru w i)) ∧ ztn (wantF n ru w i) ≤ p i := by
    intro i hi
    obtain ⟨d, e, hd, he, he2, ed⟩ := wantF_nI (ru := ru) h hT hi
    obtain ⟨a, b, c⟩ := hp i hi
    have hl := sumN_le (p := p) n i hi
    have e1 : e = p i - q i := by
      have : nI e = nI (p i - q i) := by rw [← he]; unfold shF; rw [a, b, nI_sub c]
      exact nI_inj (by omega) (by omega) this
    rw [ed, ztn_nI (by omega)]
    exact ⟨rfl, by omega⟩
  refine ⟨fun i hi => ?_, fun k hk => ?_⟩
  · obtain ⟨a, b⟩ := key i hi
    have hl := sumN_le (p := p) n i hi
    exact ⟨a, by omega⟩
  · have a := sumN_mono (f := fun i => ztn (wantF n ru w i)) (p := p) k (fun i hi => (key i (by omega)).2)
    have b := sumN_up (p := p) hk
    omega
/-- the first of the least -/
def lowI (v : Nat → Nat) : Nat → Nat
  | 0 => 0
  | k + 1 => if v (k + 1) < v (lowI v k) then k + 1 else lowI v k
theorem lowI_le (v : Nat → Nat) : ∀ k, lowI v k ≤ k
  | 0 => Nat.le_refl _
  | k + 1 => by
    unfold lowI
    have := lowI_le v k
    split <;> omega
theorem lowI_k (v : Nat → Nat) {k : Nat} (h : k ≠ 0) : lowI v k = if v k < v (lowI v (k - 1)) then k else lowI v (k - 1) := by
  obtain ⟨j, rfl⟩ : ∃ j, k = j + 1 := ⟨k - 1, by omega⟩
  rfl
section TRY
variable {R : zR} {M : zM} {ru : zRu} {q l n T S u x : Nat}
theorem zSite (h : zSt R M ru q l n T S u x) (hT : T + 3100000 < 2147483648) (hS : S + 400 < 2147483648) (x1 : Int32) : zAns R M ru q l n T S u x (f_X11_site R M 2 x1) (fun M1 => f_X12_site R M1 242 x1) := by
  have hn := h.n10
  obtain ⟨t0, t1, t2, t3, t4, -⟩ := h.rt
  have ht : zTr 195 := by unfold zTr; omega
  unfold zAns f_X11_site f_X12_site
  rw [h.x2, h.q8, h.xr.2.2.2.2.2.1, h.r45]
  by_cases hp : x1 < 0 ∨ 9999 < x1
  · exact zT_bd (zT_eq (X11_isP_n hp) (zT_if1 rfl (zT_some ⟨zag.rf, zT_bd (zT_eq (in_n hp) (zT_if1 rfl (zT_some ⟨rfl, zag.rf⟩)))⟩)))
  obtain ⟨d, hd, rfl⟩ := nI_upto (e := 9999) (fun q => hp (Or.inl q)) (i_le_of (fun q => hp (Or.inr q))) (by omega)
  have iny : f_X12_in (nI d) (0 : Int32) (9999 : Int32) = some 1 := in_y (fun q => hp (Or.inl q)) (fun q => hp (Or.inr q))
  refine zT_bd (zT_eq (X11_isP_y hd) (zT_if0 (by decide) (zT_bd ?_)))
  have m4 : M 13 4 = nI n := h.rw0.2.1
  by_cases h10 : n = 10
  · have hf : f_X6_isFull M 13 = some 1 := by
      unfold f_X6_isFull
      rw [m4, h10]
      rfl
    refine zT_eq hf (zT_if0 (by decide) (zT_some ⟨zag.rf, zT_bd (zT_eq iny (zT_if0 (by decide) (zT_if1 ?_ (zT_some ⟨rfl, zag.rf⟩))))⟩))
    show M 270 40 = 10
    rw [h.n40, h10]
    rfl
  have hf : f_X6_isFull M 13 = some 0 := by
    unfold f_X6_isFull
    rw [m4, nI_lit 10, if_pos (nI_lt (by omega) (by omega))]
  refine zT_eq hf (zT_if1 rfl (zT_bd2 ?_))
  have gb : ∀ k, k ≤ n → zGd (n + 1) (T + 9999) S (buildF n k (nI d) (rowF M)) := fun k hk => h.gd.build hk (by omega) hd
  obtain ⟨f, hf⟩ : ∃ f : Nat → Nat → Nat, f = fun k i => ztn (wantF (n + 1) ru (buildF n k (nI d) (rowF M)) i) := ⟨_, rfl⟩
  obtain ⟨v, hv⟩ : ∃ v : Nat → Nat, v = fun k => sumN (f k) (n + 1) := ⟨_, rfl⟩
  have fs : ∀ k, k ≤ n → (∀ i, i < n + 1 → wantF (n + 1) ru (buildF n k (nI d) (rowF M)) i = nI (f k i) ∧ f k i < 2147483648) ∧ ∀ j, j ≤ n + 1 → sumN (f k) j ≤ T + 9999 := fun k hk => by
    rw [hf]
    exact want_sum (ru := ru) (gb k hk) (by omega)
  have vb : ∀ k, k ≤ n → v k ≤ T + 9999 := fun k hk => by
    rw [hv]
    exact (fs k hk).2 (n + 1) (Nat.le_refl _)
  have cls : zT (f_X0_bestSite R M 194 q 13 (nI d)) (fun p => p.1 = nI (lowI v n) ∧ zag zst M p.2) := by
    unfold f_X0_bestSite
    refine zT_bd ?_
    refine zT_for (n + 1) (fun k z => z.2.2.1 = nI k ∧ zag zst M z.2.2.2 ∧ (k = 0 → z.2.1 = 9223372036854775807) ∧ (0 < k → z.1 = nI (lowI v (k - 1)) ∧ z.2.1 = lN (v (lowI v (k - 1))))) ⟨rfl, zag.rf, fun _ => rfl, fun q => absurd q (by omega)⟩ (by omega) ?_ ?_
    · rintro k ⟨y1, y2, y3, M1⟩ hk ⟨rfl, g1, k0, k1⟩
      simp only at g1 k0 k1 ⊢
      have h1 := h.sc (zst.sc g1)
      unfold b_X0_bestSite_11
      rw [t3, show M1 13 4 = nI n from h1.rw0.2.1]
      refine zT_if0 (nI_nlt (by omega) (by omega)) (zT_bd (zT_w (h1.copyC t4 ht) ?_))
      rintro M2 ⟨w2, g2, f2⟩
      rw [zst.rws g1] at w2
      refine zT_bd (zT_w (X6_insert t4 w2 (by omega) (by omega) _) ?_)
      rintro M3 ⟨w3, g3⟩
      have g13 := (g1.tr g2).tr (zblk.st ht g3)
      refine zT_bd ?_
      refine zT_w (Q := fun e : Int64 × zM => e.1 = lN (v k) ∧ zag zst M e.2) (zT_for (n + 1) (fun j z => z.1 = lN (sumN (f k) j) ∧ z.2.1 = nI j ∧ RW z.2.2 195 (n + 1) (buildF n k (nI d) (rowF M)) ∧ zag zst M z.2.2) ⟨rfl, rfl, w3, g13⟩ (by omega) ?_ ?_) ?_
      · rintro j ⟨z1, z2, M4⟩ hj ⟨rfl, rfl, w4, g4⟩
        simp only at w4 g4 ⊢
        unfold b_X0_bestSite_44
        rw [t3, w4.2.1]
        refine zT_if0 (nI_ge hj (by omega)) (zT_bd2 (zT_w ((h.sc (zst.sc g4)).wantC t4 ht w4 hj) ?_))
        rintro ⟨r, M5⟩ ⟨e5, w5, g5, f5⟩
        simp only at e5 w5 g5 ⊢
        obtain ⟨a1, a2⟩ := (fs k (by omega)).1 j hj
        rw [e5, a1, nI_l a2, lN_add]
        exact zT_some ⟨rfl, nI_1 _, w5, g4.tr g5⟩
      · rintro ⟨z1, z2, M4⟩ ⟨rfl, rfl, w4, g4⟩
        simp only at w4 g4 ⊢
        unfold b_X0_bestSite_44
        rw [t3, w4.2.1]
        exact zT_if1 (nI_le (Nat.le_refl _) (by omega)) (zT_some ⟨by rw [hv], g4⟩)
      · rintro ⟨z1, M4⟩ ⟨rfl, g4⟩
        simp only at g4 ⊢
        have vk := vb k (by omega)
        by_cases kz : k = 0
        · subst kz
          rw [k0 rfl]
          refine zT_if0 ?_ (zT_some ⟨nI_1 _, g4, fun q => absurd q (by omega), fun _ => ⟨rfl, rfl⟩⟩)
          rw [lg_cmp_ge, Int64.le_iff_toInt_le, lN_toInt (by omega)]
          have : (9223372036854775807 : Int64).toInt = 9223372036854775807 := by decide
          rw [this]
          omega
        · obtain ⟨r1, r2⟩ := k1 (by omega)
          have tl := lowI_le v (k - 1)
          have vl := vb (lowI v (k - 1)) (by omega)
          have e5 := lowI_k v kz
          rw [r2]
          refine zT_if (fun c => zT_some ⟨nI_1 _, g4, fun q => absurd q (by omega), fun _ => ?_⟩) (fun c => zT_some ⟨nI_1 _, g4, fun q => absurd q (by omega), fun _ => ?_⟩)
          · rw [lg_cmp_ge, lN_le (by omega) (by omega)] at c
            rw [if_neg (by omega)] at e5
            rw [Nat.add_sub_cancel, e5]
            exact ⟨r1, rfl⟩
          · rw [lg_cmp_ge, lN_le (by omega) (by omega)] at c
            rw [if_pos (by omega)] at e5
            rw [Nat.add_sub_cancel, e5]
            exact ⟨rfl, rfl⟩
    · rintro ⟨y1, y2, y3, M1⟩ ⟨rfl, g1, k0, k1⟩
      simp only at g1 k1 ⊢
      have h1 := h.sc (zst.sc g1)
      unfold b_X0_bestSite_11
      rw [show M1 13 4 = nI n from h1.rw0.2.1]
      exact zT_if1 (nI_lt (by omega) (by omega)) (zT_some (zT_some ⟨(k1 (by omega)).1, g1⟩))
  refine zT_w cls ?_
  rintro ⟨y, M1⟩ ⟨ey, g1⟩
  refine zT_some ⟨zst.sk g1, zT_bd (zT_eq iny (zT_if0 (by decide) (zT_if0 ?_ (zT_bd ?_))))⟩
  · show ¬ M1 270 40 = 10
    rw [show M1 270 40 = nI n from (h.sc (zst.sc g1)).n40]
    exact fun q => h10 (nI_inj (by omega) (by omega) q)
  have h1 := h.sc (zst.sc g1)
  have f1 := zst.rws g1
  simp only at ey
  rw [ey]
  refine zT_for (n + 1) (fun k z => z.2.2.1 = nI k ∧ zag zsr M1 z.2.2.2 ∧ rowF z.2.2.2 = rowF M ∧ (k = 0 → z.1 = -1) ∧ (0 < k → z.1 = nI (lowI v (k - 1)) ∧ z.2.1 = nI (v (lowI v (k - 1))))) ⟨rfl, zag.rf, f1, fun _ => rfl, fun q => absurd q (by omega)⟩ (by omega) ?_ ?_
  · rintro k ⟨y1, y2, y3, M2⟩ hk ⟨rfl, g2, f2, k0, k1⟩
    simp only at g2 f2 k0 k1 ⊢
    have h2 := h1.sc (zsr.sc g2)
    unfold b_X12_site_35 j_X12_site_106
    rw [h.r45, show M2 270 (ztn (40 : Int32)) = nI n from h2.n40]
    refine zT_if0 (nI_nlt (by omega) (by omega)) (zT_bd (zT_w h2.copyR ?_))
    rintro M3 ⟨e3, g3, f3⟩
    rw [f2] at e3 f3
    refine zT_bd (zT_w (X12_builds h.md (n := n) (by omega) (by omega) (by rw [e3]; exact h.gd.2.1) _) ?_)
    rintro M4 ⟨e4, g4⟩
    rw [e3] at e4
    have g24 := (g2.tr g3).tr (z271.sr g4)
    have f4 : rowF M4 = rowF M := by rw [← f3]; exact zSt.rowR (z271.sr g4) e4 (fun j hj => by rw [f3]; exact buildF_hi hj)
    have hi : ∀ M5 : zM, zag zsr M4 M5 → M5 271 = M4 271 → rowF M5 = rowF M := fun M5 g e => by rw [← f4]; exact rowF_of rfl (g.row (fun k => by unfold zsr; omega)) (fun j hj => by rw [e]; unfold rowF; rw [if_neg (by omega)])
    refine zT_bd ?_
    refine zT_w (Q := fun e : Int32 × zM => e.1 = nI (v k) ∧ zag zsr M1 e.2 ∧ rowF e.2 = rowF M) (zT_for (n + 1) (fun j z => z.1 = nI (sumN (f k) j) ∧ z.2.1 = nI j ∧ z.2.2 271 = buildF n k (nI d) (rowF M) ∧ zag zsr M4 z.2.2) ⟨rfl, rfl, e4, zag.rf⟩ (by omega) ?_ ?_) ?_
    · rintro j ⟨z1, z2, M5⟩ hj ⟨rfl, rfl, e5, g5⟩
      simp only at e5 g5 ⊢
      unfold b_X12_site_64
      have gk := gb k (by omega)
      rw [h.r46, show M5 271 (ztn (40 : Int32)) = nI (n + 1) by rw [e5]; exact gk.2.1]
      refine zT_if0 (nI_ge hj (by omega)) (zT_bd2 (zT_w ((h1.sc (zsr.sc (g24.tr g5))).wantR (by rw [e5]; exact gk) (by omega) hj) ?_))
      rintro ⟨r, M6⟩ ⟨e6, e6b, g6⟩
      simp only at e6 e6b g6 ⊢
      obtain ⟨a1, a2⟩ := (fs k (by omega)).1 j hj
      rw [e5] at e6 e6b
      rw [e6, a1, nI_add]
      exact zT_some ⟨rfl, nI_1 _, e6b, g5.tr g6⟩
    · rintro ⟨z1, z2, M5⟩ ⟨rfl, rfl, e5, g5⟩
      simp only at e5 g5 ⊢
      unfold b_X12_site_64
      have gk := gb k (by omega)
      rw [h.r46, show M5 271 (ztn (40 : Int32)) = nI (n + 1) by rw [e5]; exact gk.2.1]
      exact zT_if1 (nI_le (Nat.le_refl _) (by omega)) (zT_some ⟨by rw [hv], g24.tr g5, hi M5 g5 (by rw [e5, e4])⟩)
    · rintro ⟨z1, M5⟩ ⟨rfl, g5, f5⟩
      simp only at g5 f5 ⊢
      have vk := vb k (by omega)
      by_cases kz : k = 0
      · subst kz
        rw [k0 rfl]
        exact zT_if1 (by decide) (zT_some ⟨nI_1 _, g5, f5, fun q => absurd q (by omega), fun _ => ⟨rfl, rfl⟩⟩)
      · obtain ⟨r1, r2⟩ := k1 (by omega)
        have tl := lowI_le v (k - 1)
        have vl := vb (lowI v (k - 1)) (by omega)
        have e5 := lowI_k v kz
        rw [r1, r2]
        refine zT_if0 (nI_pos (by omega)) (zT_if (fun c => zT_some ⟨nI_1 _, g5, f5, fun q => absurd q (by omega), fun _ => ?_⟩) (fun c => zT_some ⟨nI_1 _, g5, f5, fun q => absurd q (by omega), fun _ => ?_⟩))
        · rw [nI_ltI (by omega) (by omega)] at c
          rw [if_pos c] at e5
          rw [Nat.add_sub_cancel, e5]
          exact ⟨rfl, rfl⟩
        · rw [nI_ltI (by omega) (by omega)] at c
          rw [if_neg c] at e5
          rw [Nat.add_sub_cancel, e5]
          exact ⟨rfl, rfl⟩
  · rintro ⟨y1, y2, y3, M2⟩ ⟨rfl, g2, f2, k0, k1⟩
    simp only at g2 k1 ⊢
    have h2 := h1.sc (zsr.sc g2)
    unfold b_X12_site_35
    rw [h.r45, show M2 270 (ztn (40 : Int32)) = nI n from h2.n40]
    exact zT_if1 (nI_lt (by omega) (by omega)) (zT_some (zT_some ⟨(k1 (by omega)).1, g2⟩))
end TRY

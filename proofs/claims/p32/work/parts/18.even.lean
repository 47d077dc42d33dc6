theorem X7_evenings {R : zR} {M : zM} {q r n T S c : Nat} {w : Nat → Int32} {ru : zRu} (hc : zCr R M q ru) (hok : zOk ru) (hR : zrg R r) (hw : RW M r n w) (hq : r + 5 ≤ q) (hg : zGd n T S w) (hT : T + 9990 * c < 2147483648) (hS : S + c < 2147483648) (hcc : c < 999999) {how : Int32} (hh : how = 0 ∨ how = 1 ∨ how = 2) : zT (f_X7_evenings R M q r (nI c) how) (fun M1 => RW M1 r n (evesF n how ru w c) ∧ zag (clA r q) M M1) := by
  unfold f_X7_evenings
  refine zT_bd ?_
  refine zT_for c (fun k v => v.1 = nI k ∧ RW v.2 r n (evesF n how ru w k) ∧ zag (clA r q) M v.2) ⟨rfl, hw, zag.rf⟩ hcc ?_ ?_
  · rintro k ⟨x, M1⟩ hk ⟨rfl, hw1, hg1⟩
    simp only at hw1 hg1 ⊢
    unfold b_X7_evenings_3
    refine zT_if0 (nI_ge hk (Nat.lt_of_le_of_lt (Nat.le_add_left c S) hS)) (zT_bd ?_)
    have hle : 9990 * k ≤ 9990 * c := Nat.mul_le_mul_left _ (by omega)
    obtain ⟨_, _, ⟨s, hs, es⟩, _⟩ := zGd.eves (how := how) (ru := ru) hg k (by generalize 9990 * k = a at *; generalize 9990 * c = b at *; omega) (by omega)
    refine zT_w (X7_evening (hc.cl hq hg1) hok hR hw1 hq es (by omega) hh) ?_
    rintro M2 ⟨w2, g2⟩
    exact zT_some ⟨nI_1 k, w2, hg1.tr g2⟩
  · rintro ⟨x, M1⟩ ⟨rfl, hw1, hg1⟩
    simp only at hw1 hg1 ⊢
    unfold b_X7_evenings_3
    exact zT_if1 (nI_le (Nat.le_refl _) (Nat.lt_of_le_of_lt (Nat.le_add_left c S) hS)) (zT_some (zT_some ⟨hw1, hg1⟩))
/-! AN EVENING, on the reference's side -/
def mrA : Nat → Nat → Prop := fun b k => tlA b k ∨ b = 271 ∨ b = 272
theorem tlA.mr {M M1 : zM} (h : zag tlA M M1) : zag mrA M M1 := h.mo (fun _ _ e => Or.inl e)
theorem zMs.mr {M M1 : zM} {l : Nat} {ru : zRu} (h : zMs M l ru) (hg : zag mrA M M1) : zMs M1 l ru := h.eq (fun a k q1 q2 => hg a k (by unfold mrA tlA; omega))
theorem mr18 {M M1 : zM} (hg : zag mrA M M1) : M1 242 18 = M 242 18 := hg 242 18 (by unfold mrA tlA; omega)
theorem tl271 {M M1 : zM} (hg : zag tlA M M1) : M1 271 = M 271 := funext fun k => hg 271 k (by unfold tlA; omega)
theorem tl272 {M M1 : zM} (hg : zag tlA M M1) : M1 272 = M 272 := funext fun k => hg 272 k (by unfold tlA; omega)
theorem X12_wanted {R : zR} {M : zM} (hR : zMd R) {n h l T S : Nat} {ru : zRu} (hs : zMs M l ru) (hv : M 242 18 = nI l) (hg : zGd n T S (M 271)) (hT : T < 2147483648) (hh : h < n) : zT (f_X12_wanted R M 242 (nI h)) (fun p => p.1 = wantF n ru (M 271) h ∧ zag tlA M p.2) := by
  have hn := hg.1
  have hw := hg.2.1
  unfold f_X12_wanted
  refine zT_bd (zT_eq (X12_gapOf hR hn hw hh hs.1 hv) (zT_bd (zT_eq (X12_shownOf hR (by omega)) (zT_bd2 ?_))))
  rw [hs.2.1]
  obtain ⟨e, he, ee⟩ := hg.sh hh
  have hm : 0 ≤ shF (M 271) h := by rw [ee]; exact nI_pos' (by omega)
  refine zT_w (X12_tellsBy hR hs hv hn hw hh (k := 0) (by omega) hm (dflt_0 hm (hg.gap hT hh _))) ?_
  rintro ⟨x, M1⟩ ⟨e1, g1⟩
  exact zT_some ⟨e1, g1⟩
theorem X12_earnAll {R : zR} {M : zM} (hR : zMd R) {n l T S : Nat} {ru : zRu} (hs : zMs M l ru) (hv : M 242 18 = nI l) (hg : zGd n T S (M 271)) : zT (f_X12_earnAll R M 242) (fun M1 => M1 271 = earnS n ru (M 271) n ∧ zag mrA M M1) := by
  have hn := hg.1
  unfold f_X12_earnAll
  refine zT_bd ?_
  have r46 : R 242 46 = 271 := hR.at rfl (by decide)
  refine zT_for n (fun k v => v.1 = nI k ∧ v.2 271 = earnS n ru (M 271) k ∧ zag mrA M v.2) ⟨rfl, rfl, zag.rf⟩ (by omega) ?_ ?_
  · rintro k ⟨x, M1⟩ hk ⟨rfl, e1, g1⟩
    simp only at e1 g1 ⊢
    unfold b_X12_earnAll_2
    have gk := hg.GearnS (ru := ru) k (by omega)
    rw [← e1] at gk
    have w40 : M1 271 (ztn (40 : Int32)) = nI n := gk.2.1
    rw [r46, w40]
    refine zT_if0 (nI_ge (by omega) (by omega)) (zT_ck (zin_nI (by omega) (by omega)) (zT_bd2 ?_))
    refine zT_w (X12_tellsBy hR (hs.mr g1) (by rw [mr18 g1]; exact hv) hn gk.2.1 hk (k := 1) (by omega) (by decide) (plain := 0) (most := 999) dflt_1) ?_
    rintro ⟨y, M2⟩ ⟨e2, g2⟩
    simp only at e2 g2 ⊢
    refine zT_ck (zin_nI (by omega) (by omega)) (zT_lt (zT_some ⟨nI_1 k, ?_, ?_⟩))
    · rw [ztn_nI (by omega), e2]
      funext j
      unfold earnS earnF
      rw [← e1]
      by_cases e : j = k
      · subst e
        rw [upd_s]
        exact zup_same (M := M2) (a := 271)
      · rw [upd_n e]
        show zup M2 271 k _ 271 j = _
        rw [zup_k e, tl271 g2]
    · exact (g1.tr (tlA.mr g2)).up (Or.inr (Or.inl rfl))
  · rintro ⟨x, M1⟩ ⟨rfl, e1, g1⟩
    simp only at e1 g1 ⊢
    unfold b_X12_earnAll_2
    have gk := hg.GearnS (ru := ru) n (Nat.le_refl _)
    rw [← e1] at gk
    have w40 : M1 271 (ztn (40 : Int32)) = nI n := gk.2.1
    rw [r46, w40]
    exact zT_if1 (nI_le (Nat.le_refl _) (by omega)) (zT_some (zT_some ⟨e1, g1⟩))
theorem z271.up {M M1 : zM} {k : Nat} {v : Int32} (h : zag (fun b _ => b = 271) M M1) : zag (fun b _ => b = 271) M (zup M1 271 k v) := h.up rfl
theorem X12_pays {R : zR} {M : zM} (hR : zMd R) {h : Nat} (hh : h < 10) (x : Int32) : zT (f_X12_pays R M 242 (nI h) x) (fun M1 => M1 271 = payF (M 271) h x ∧ zag (fun b _ => b = 271) M M1) := by
  unfold f_X12_pays
  rw [hR.at (k := 46) (b := 271) rfl (by decide), nI_lit 20, nI_lit 30, nI_lit 41, nI_add, nI_add]
  refine zT_ck (zin_nI (by omega) (by omega)) (zT_ck (zin_nI (by omega) (by omega)) (zT_lt (zT_lt (zT_ck (zin_nI (by omega) (by omega)) (zT_lt (zT_ck (zin_nI (by omega) (by omega)) (zT_ck (zin_nI (by omega) (by omega)) (zT_lt (zT_some ?_)))))))))
  rw [ztn_nI (by omega), ztn_nI (by omega), ztn_nI (by omega), ztn_nI (by omega)]
  refine ⟨?_, z271.up (z271.up (z271.up (z271.up zag.rf)))⟩
  simp (disch := omega) only [zup_k]
  funext j
  unfold payF
  by_cases e1 : j = 30 + h
  · subst e1
    rw [upd_s]
    exact zup_same
  rw [upd_n e1, zup_k e1]
  by_cases e2 : j = 20 + h
  · subst e2
    rw [upd_s]
    exact zup_same
  rw [upd_n e2, zup_k e2]
  by_cases e3 : j = 41
  · subst e3
    rw [upd_s]
    exact zup_same
  rw [upd_n e3, zup_k e3]
  by_cases e4 : j = h
  · subst e4
    rw [upd_s]
    exact zup_same
  rw [upd_n e4, zup_k e4]
theorem X12_payOnce {R : zR} {M : zM} (hR : zMd R) {n l T S : Nat} {ru : zRu} (hs : zMs M l ru) (hv : M 242 18 = nI l) (hg : zGd n T S (M 271)) (hT : T < 2147483648) (x2 : Int32) : zT (f_X12_payAll R M 242 0 x2) (fun M1 => M1 271 = onceS n ru (M 271) n ∧ zag mrA M M1) := by
  have hn := hg.1
  unfold f_X12_payAll
  have r46 : R 242 46 = 271 := hR.at rfl (by decide)
  have r47 : R 242 47 = 272 := hR.at rfl (by decide)
  have w40 : M 271 (ztn (40 : Int32)) = nI n := hg.2.1
  refine zT_if1 rfl (zT_bd ?_)
  rw [r46, w40]
  refine zT_for n (fun k v => v.1 = nI k ∧ v.2 271 = M 271 ∧ zag mrA M v.2 ∧ ∀ j, j < k → v.2 272 j = wantF n ru (M 271) j) ⟨rfl, rfl, zag.rf, fun j hj => absurd hj (by omega)⟩ (by omega) ?_ ?_
  · rintro k ⟨x, M1⟩ hk ⟨rfl, e1, g1, d1⟩
    simp only at e1 g1 d1 ⊢
    unfold b_X12_payAll_51
    refine zT_if0 (nI_ge (by omega) (by omega)) (zT_bd2 ?_)
    refine zT_w (X12_wanted hR (hs.mr g1) (by rw [mr18 g1]; exact hv) (by rw [e1]; exact hg) hT hk) ?_
    rintro ⟨y, M2⟩ ⟨e2, g2⟩
    simp only at e2 g2 ⊢
    refine zT_ck (zin_nI (by omega) (by omega)) (zT_lt (zT_some ⟨nI_1 k, ?_, ?_, ?_⟩))
    · rw [r47]
      exact (zup_r (M := M2) (a := 272) (b := 271) (k := ztn (nI k)) (v := y) (by decide)).trans ((tl271 g2).trans e1)
    · rw [r47]
      exact (g1.tr (tlA.mr g2)).up (Or.inr (Or.inr rfl))
    · intro j hj
      rw [r47, ztn_nI (by omega), e2, e1]
      by_cases e : j = k
      · subst e
        exact zup_same (M := M2) (a := 272)
      · show zup M2 272 k _ 272 j = _
        rw [zup_k e, tl272 g2]
        exact d1 j (by omega)
  · rintro ⟨x, M1⟩ ⟨rfl, e1, g1, d1⟩
    simp only at e1 g1 d1 ⊢
    unfold b_X12_payAll_51
    refine zT_if1 (nI_le (Nat.le_refl _) (by omega)) (zT_some (zT_bd ?_))
    refine zT_for n (fun k v => v.1 = nI k ∧ v.2 271 = onceS n ru (M 271) k ∧ zag (fun b _ => b = 271) M1 v.2) ⟨rfl, e1, zag.rf⟩ (by omega) ?_ ?_
    · rintro k ⟨x, M2⟩ hk ⟨rfl, e2, g2⟩
      simp only at e2 g2 ⊢
      unfold b_X12_payAll_79
      refine zT_if0 (nI_ge (by omega) (by omega)) (zT_ck (zin_nI (by omega) (by omega)) (zT_bd ?_))
      rw [r47, ztn_nI (by omega), g2 272 k (by omega), d1 k hk]
      refine zT_w (X12_pays hR (by omega) _) ?_
      rintro M3 ⟨e3, g3⟩
      refine zT_some ⟨nI_1 k, ?_, g2.tr g3⟩
      show M3 271 = _
      rw [e3, e2]
      rfl
    · rintro ⟨x, M2⟩ ⟨rfl, e2, g2⟩
      simp only at e2 g2 ⊢
      unfold b_X12_payAll_79
      exact zT_if1 (nI_le (Nat.le_refl _) (by omega)) (zT_some (zT_some ⟨e2, g1.tr (g2.mo (fun b k e => Or.inr (Or.inl e)))⟩))
theorem X12_payTurns {R : zR} {M : zM} (hR : zMd R) {n l T S s : Nat} {ru : zRu} (hs : zMs M l ru) (hv : M 242 18 = nI l) (hg : zGd n T S (M 271)) (hT : T < 2147483648) (hsn : s < 10) {tu : Int32} (ht : tu ≠ 0) : zT (f_X12_payAll R M 242 tu (nI s)) (fun M1 => M1 271 = turnsS n ru s (M 271) n ∧ zag mrA M M1) := by
  have hn := hg.1
  unfold f_X12_payAll
  have r46 : R 242 46 = 271 := hR.at rfl (by decide)
  have w40 : M 271 (ztn (40 : Int32)) = nI n := hg.2.1
  refine zT_if0 ht (zT_bd ?_)
  rw [r46, w40]
  refine zT_for n (fun k v => v.1 = nI k ∧ v.2 271 = turnsS n ru s (M 271) k ∧ zag mrA M v.2) ⟨rfl, rfl, zag.rf⟩ (by omega) ?_ ?_
  · rintro k ⟨x, M1⟩ hk ⟨rfl, e1, g1⟩
    simp only at e1 g1 ⊢
    unfold b_X12_payAll_15
    have hz : znz (nI n) = true := by
      unfold znz
      rw [decide_eq_false (nI_ne0 (by omega) (by omega))]
      rfl
    have gk := hg.GturnsS (ru := ru) (s := s) hT k (by omega)
    rw [← e1] at gk
    have hm : (s + k) % n < n := Nat.mod_lt _ (by omega)
    refine zT_if0 (nI_ge (by omega) (by omega)) (zT_ck hz (zT_ck hz (zT_bd2 ?_)))
    rw [nI_add, pk_rem (by omega) (by omega) (by omega)]
    refine zT_w (X12_wanted hR (hs.mr g1) (by rw [mr18 g1]; exact hv) gk hT hm) ?_
    rintro ⟨y, M2⟩ ⟨e2, g2⟩
    simp only at e2 g2 ⊢
    rw [e2]
    refine zT_bd (zT_w (X12_pays hR (by omega) _) ?_)
    rintro M3 ⟨e3, g3⟩
    refine zT_some ⟨nI_1 k, ?_, (g1.tr (tlA.mr g2)).tr (g3.mo (fun b k e => Or.inr (Or.inl e)))⟩
    show M3 271 = _
    rw [e3, tl271 g2, e1]
    rfl
  · rintro ⟨x, M1⟩ ⟨rfl, e1, g1⟩
    simp only at e1 g1 ⊢
    unfold b_X12_payAll_15
    exact zT_if1 (nI_le (Nat.le_refl _) (by omega)) (zT_some (zT_some ⟨e1, g1⟩))
theorem X12_zero30 {R : zR} {M : zM} (hR : zMd R) : zT (zloop zN (fun v => b_X12_shares_163 R v.2 242 v.1) ((0 : Int32), M)) (fun M1 => M1 271 = zero30 (M 271) ∧ zag (fun b _ => b = 271) M M1) := by
  refine zT_for 10 (fun k v => v.1 = nI k ∧ (∀ j, v.2 271 j = if 30 ≤ j ∧ j < 30 + k then 0 else M 271 j) ∧ zag (fun b _ => b = 271) M v.2) ⟨rfl, fun j => by rw [if_neg (by omega)], zag.rf⟩ (by omega) ?_ ?_
  · rintro k ⟨x, M1⟩ hk ⟨rfl, e1, g1⟩
    simp only at e1 g1 ⊢
    unfold b_X12_shares_163
    rw [hR.at (k := 46) (b := 271) rfl (by decide), nI_lit 10, nI_lit 30, nI_add]
    refine zT_if0 (nI_ge (by omega) (by omega)) (zT_ck (zin_nI (by omega) (by omega)) (zT_lt (zT_some ⟨nI_1 k, fun j => ?_, z271.up g1⟩)))
    rw [ztn_nI (by omega)]
    show zup M1 271 (30 + k) 0 271 j = _
    by_cases e : j = 30 + k
    · subst e
      rw [if_pos (by omega), zup_same]
    · rw [zup_k e, e1]
      by_cases e2 : 30 ≤ j ∧ j < 30 + k
      · rw [if_pos e2, if_pos (by omega)]
      · rw [if_neg e2, if_neg (by omega)]
  · rintro ⟨x, M1⟩ ⟨rfl, e1, g1⟩
    simp only at e1 g1 ⊢
    unfold b_X12_shares_163
    refine zT_if1 (by decide) (zT_some ⟨?_, g1⟩)
    funext j
    exact e1 j
theorem X12_shares {R : zR} {M : zM} (hR : zMd R) {n T S : Nat} (hg : zGd n T S (M 271)) (hS : S < 2147483648) {how : Int32} (hh : how = 0 ∨ how = 1 ∨ how = 2) : zT (f_X12_shares R M 242 how) (fun M1 => M1 271 = sharesF n how (M 271) ∧ zag (fun b _ => b = 271) M M1) := by
  have hn := hg.1
  have r46 : R 242 46 = 271 := hR.at rfl (by decide)
  have w40 : M 271 (ztn (40 : Int32)) = nI n := hg.2.1
  unfold f_X12_shares
  rw [r46, w40]
  by_cases h0 : n = 0
  · subst h0
    exact zT_if1 rfl (zT_some ⟨rfl, zag.rf⟩)
  have hz : znz (nI n) = true := by
    unfold znz
    rw [decide_eq_false (nI_ne0 (by omega) (by omega))]
    rfl
  have hto := toF_lt (how := how) hg hS (by omega)
  refine zT_if0 (nI_ne0 (by omega) (by omega)) ?_
  have one : how ≠ 0 → zT (j_X12_shares_77 R M 242 how (nI n) (nI (toF n how (M 271)))) (fun M1 => M1 271 = sharesF n how (M 271) ∧ zag (fun b _ => b = 271) M M1) := fun hne => by
    unfold j_X12_shares_77
    rw [r46]
    refine zT_if0 hne (zT_ck (zin_nI (by omega) (by omega)) (zT_ck (zin_nI (by omega) (by omega)) (zT_lt (zT_lt (zT_bd (zT_w (X12_zero30 hR) ?_))))))
    rw [ztn_nI (by omega)]
    rintro M1 ⟨e1, g1⟩
    refine zT_lt (zT_some ⟨?_, z271.up ((z271.up (z271.up zag.rf)).tr g1)⟩)
    unfold sharesF
    rw [if_neg h0, if_neg hne]
    generalize toF n how (M 271) = t at *
    have e41 : ztn (41 : Int32) = 41 := rfl
    have e43 : ztn (43 : Int32) = 43 := rfl
    rw [e41] at e1
    rw [e43]
    have row : zup (zup M 271 t (M 271 t + M 271 41)) 271 41 0 271 = upd (upd (M 271) t (M 271 t + M 271 41)) 41 0 := by
      funext j
      by_cases e : j = 41
      · subst e; rw [upd_s, zup_same]
      rw [upd_n e, zup_k e]
      by_cases e2 : j = t
      · subst e2; rw [upd_s, zup_same]
      rw [upd_n e2, zup_k e2]
    rw [row] at e1
    have c43 : M1 271 43 = M 271 43 := by
      rw [e1]
      unfold zero30
      rw [if_neg (by omega), upd_n (by omega), upd_n (by omega)]
    rw [c43]
    funext j
    by_cases e : j = 43
    · subst e; rw [upd_s, zup_same]
    rw [upd_n e, zup_k e, e1]
  rcases hh with rfl | rfl | rfl
  · refine zT_if0 (by decide) ?_
    unfold j_X12_shares_31
    refine zT_if0 (by decide) ?_
    unfold j_X12_shares_77
    rw [r46]
    refine zT_if1 rfl (zT_ck hz (zT_bd ?_))
    have e41 : ztn (41 : Int32) = 41 := rfl
    have e43 : ztn (43 : Int32) = 43 := rfl
    rw [e41, e43]
    have add : ∀ x : Int32, zT (zloop zN (fun v => b_X12_shares_95 R v.2 242 (nI n) x v.1) ((0 : Int32), M)) (fun M1 => M1 271 = addF n x (M 271) ∧ zag (fun b _ => b = 271) M M1) := fun x => by
      refine zT_for n (fun k v => v.1 = nI k ∧ (∀ j, v.2 271 j = if j < k then M 271 j + x else M 271 j) ∧ zag (fun b _ => b = 271) M v.2) ⟨rfl, fun j => by rw [if_neg (by omega)], zag.rf⟩ (by omega) ?_ ?_
      · rintro k ⟨y, M1⟩ hk ⟨rfl, e1, g1⟩
        simp only at e1 g1 ⊢
        unfold b_X12_shares_95
        rw [r46]
        refine zT_if0 (nI_ge (by omega) (by omega)) (zT_ck (zin_nI (by omega) (by omega)) (zT_ck (zin_nI (by omega) (by omega)) (zT_lt (zT_some ⟨nI_1 k, fun j => ?_, z271.up g1⟩))))
        rw [ztn_nI (by omega)]
        show zup M1 271 k (M1 271 k + x) 271 j = _
        by_cases e : j = k
        · subst e
          rw [if_pos (by omega), zup_same, e1, if_neg (by omega)]
        · rw [zup_k e, e1]
          by_cases e2 : j < k
          · rw [if_pos e2, if_pos (by omega)]
          · rw [if_neg e2, if_neg (by omega)]
      · rintro ⟨y, M1⟩ ⟨rfl, e1, g1⟩
        simp only at e1 g1 ⊢
        unfold b_X12_shares_95
        refine zT_if1 (nI_le (Nat.le_refl _) (by omega)) (zT_some ⟨?_, g1⟩)
        funext j
        exact e1 j
    refine zT_w (add _) ?_
    rintro M1 ⟨e1, g1⟩
    refine zT_lt (zT_bd (zT_w (X12_zero30 hR) ?_))
    rintro M2 ⟨e2, g2⟩
    refine zT_lt (zT_some ⟨?_, z271.up ((z271.up g1).tr g2)⟩)
    unfold sharesF
    rw [if_neg h0, if_pos rfl, hg.2.1]
    have c41 : M1 271 41 = M 271 41 := by rw [e1]; unfold addF; rw [if_neg (by omega)]
    rw [c41] at e2
    have row : zup M1 271 41 (M 271 41 - M 271 41 / nI n * nI n) 271 = upd (addF n (M 271 41 / nI n) (M 271)) 41 (M 271 41 - M 271 41 / nI n * nI n) := by
      funext j
      by_cases e : j = 41
      · subst e; rw [upd_s, zup_same]
      rw [upd_n e, zup_k e, e1]
    rw [row] at e2
    have c43 : M2 271 43 = M 271 43 := by
      rw [e2]
      unfold zero30
      rw [if_neg (by omega), upd_n (by omega)]
      unfold addF
      rw [if_neg (by omega)]
    rw [c43]
    funext j
    by_cases e : j = 43
    · subst e; rw [upd_s, zup_same]
    rw [upd_n e, zup_k e, e2]
  · refine zT_if0 (by decide) ?_
    unfold j_X12_shares_31
    refine zT_if1 rfl (zT_bd ?_)
    refine zT_for (n - 1) (fun k v => v.2 = nI (k + 1) ∧ v.1 = nI (mostF (M 271) k)) ⟨rfl, rfl⟩ (by omega) ?_ ?_
    · rintro k ⟨x, y⟩ hk ⟨rfl, rfl⟩
      unfold b_X12_shares_40
      simp only
      have hm := mostF_le (M 271) k
      rw [r46, nI_lit 30, nI_add, nI_add]
      refine zT_if0 (nI_ge (by omega) (by omega)) (zT_ck (zin_nI (by omega) (by omega)) (zT_ck (zin_nI (by omega) (by omega)) ?_))
      rw [ztn_nI (by omega), ztn_nI (by omega)]
      refine zT_if (fun z => zT_some ⟨nI_1 _, ?_⟩) (fun z => zT_some ⟨nI_1 _, ?_⟩)
      · show nI (mostF (M 271) k) = _
        conv => rhs; unfold mostF
        rw [if_pos z]
      · show nI (k + 1) = _
        conv => rhs; unfold mostF
        rw [if_neg z]
    · rintro ⟨x, y⟩ ⟨rfl, rfl⟩
      unfold b_X12_shares_40
      simp only
      refine zT_if1 (nI_le (by omega) (by omega)) (zT_some ?_)
      have := one (by decide)
      unfold toF at this
      rw [if_pos rfl] at this
      exact this
  · obtain ⟨_, _, ⟨s, hs, es⟩, _⟩ := id hg
    refine zT_if1 rfl (zT_ck hz ?_)
    unfold j_X12_shares_31
    refine zT_if0 (by decide) ?_
    have e43 : M 271 (ztn (43 : Int32)) = nI s := es
    rw [e43, pk_rem (by omega) (by omega) (by omega)]
    have := one (by decide)
    unfold toF at this
    rw [if_neg (by decide), es, hg.2.1, pk_rem (by omega) (by omega) (by omega), nI_clamp (Nat.lt_trans (Nat.mod_lt _ (by omega)) (by omega))] at this
    exact this

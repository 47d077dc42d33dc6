theorem X12_ends {R : zR} {M : zM} (hR : zMd R) {n l T S : Nat} {ru : zRu} (hs : zMs M l ru) (hok : zOk ru) (hv : M 242 18 = nI l) (hg : zGd n T S (M 271)) (hS : S < 2147483648) {how : Int32} (hh : how = 0 ∨ how = 1 ∨ how = 2) : zT (f_X12_ends R M 242 how) (fun M1 => M1 271 = endF n how (ruE ru) (M 271) ∧ zag (fun b _ => b = 271) M M1) := by
  unfold f_X12_ends
  have e42 : ztn (42 : Int32) = 42 := rfl
  rw [hR.at (k := 46) (b := 271) rfl (by decide), hR.at (k := 27) (b := 256) rfl (by decide), e42]
  refine zT_lt ?_
  have row : zup M 271 42 (M 271 42 + 1) 271 = upd (M 271) 42 (M 271 42 + 1) := by
    funext j
    by_cases e : j = 42
    · subst e; rw [upd_s, zup_same]
    rw [upd_n e, zup_k e]
  have g1 : zag (fun b _ => b = 271) M (zup M 271 42 (M 271 42 + 1)) := z271.up zag.rf
  generalize zup M 271 42 (M 271 42 + 1) = M1 at row g1 ⊢
  have v18 : M1 242 18 = nI l := by rw [g1 242 18 (by omega)]; exact hv
  have v56 : M1 256 l = ruE ru := by rw [g1 256 l (by omega)]; exact hs.2.2.2.2.1
  have hpos := hok.2.1
  rw [v18, ztn_nI (by have := hs.1; omega), v56, row]
  refine zT_ck (zin_nI hs.1 (by omega)) (zT_ck ?_ ?_)
  · unfold znz
    have : ruE ru ≠ 0 := fun z => by rw [z] at hpos; exact Int32.lt_irrefl hpos
    simpa using this
  · unfold endF
    have gd : zGd n T S (M1 271) := by rw [row]; exact hg.clock _
    refine zT_if (fun z => ?_) (fun z => ?_)
    · rw [if_pos z, ← row]
      refine zT_bd (zT_w (X12_shares hR gd hS hh) ?_)
      rintro M2 ⟨e2, g2⟩
      exact zT_some ⟨e2, g1.tr g2⟩
    · rw [if_neg z]
      exact zT_some ⟨row, g1⟩
theorem X12_payAll {R : zR} {M : zM} (hR : zMd R) {n l T S s : Nat} {ru : zRu} (hs : zMs M l ru) (hv : M 242 18 = nI l) (hg : zGd n T S (M 271)) (hT : T < 2147483648) (hsn : s < 10) (tu : Int32) : zT (f_X12_payAll R M 242 tu (nI s)) (fun M1 => M1 271 = payAllF n ru tu s (M 271) ∧ zag mrA M M1) := by
  unfold payAllF
  by_cases h : tu = 0
  · subst h
    rw [if_pos rfl]
    exact X12_payOnce hR hs hv hg hT _
  · rw [if_neg h]
    exact X12_payTurns hR hs hv hg hT hsn h
theorem X12_evening {R : zR} {M : zM} (hR : zMd R) {n l T S : Nat} {ru : zRu} (hs : zMs M l ru) (hok : zOk ru) (hv : M 242 18 = nI l) (hg : zGd n T S (M 271)) (hT : T + 9990 < 2147483648) (hS : S < 2147483648) {how : Int32} (hh : how = 0 ∨ how = 1 ∨ how = 2) : zT (f_X12_evening R M 242 how) (fun M1 => M1 271 = eveF n how ru (M 271) ∧ zag mrA M M1) := by
  have hn := hg.1
  unfold f_X12_evening
  refine zT_bd (zT_w (X12_earnAll hR hs hv hg) ?_)
  rintro M1 ⟨e1, g1⟩
  have v1 : M1 242 18 = nI l := by rw [mr18 g1]; exact hv
  have s1 := hs.mr g1
  have gd1 : zGd n (T + 9990) S (M1 271) := by rw [e1]; exact (hg.GearnS n (Nat.le_refl _)).mo (by omega) (Nat.le_refl _)
  rw [v1, hR.at (k := 25) (b := 254) rfl (by decide), ztn_nI (by have := hs.1; omega), s1.2.2.1]
  refine zT_ck (zin_nI hs.1 (by omega)) (zT_bd (zT_w (X12_payAll (s := 0) hR s1 v1 gd1 hT (by omega) _) ?_))
  rintro M2 ⟨e2, g2⟩
  have gd2 : zGd n (T + 9990) S (M2 271) := by rw [e2]; exact gd1.payAll hT
  refine zT_bd (zT_w (X12_ends hR (s1.mr g2) hok (by rw [mr18 g2]; exact v1) gd2 hS hh) ?_)
  rintro M3 ⟨e3, g3⟩
  refine zT_some ⟨?_, (g1.tr g2).tr (g3.mo (fun b k e => Or.inr (Or.inl e)))⟩
  rw [e3, e2, e1]
  rfl
theorem X12_evenings {R : zR} {M : zM} (hR : zMd R) {n l T S c : Nat} {ru : zRu} (hs : zMs M l ru) (hok : zOk ru) (hv : M 242 18 = nI l) (hg : zGd n T S (M 271)) (hT : T + 9990 * c < 2147483648) (hS : S + c < 2147483648) (hcc : c < 999999) : zT (f_X12_evenings R M 242 (nI c)) (fun M1 => M1 271 = evesF n (ruH ru) ru (M 271) c ∧ zag mrA M M1) := by
  unfold f_X12_evenings
  refine zT_bd ?_
  refine zT_for c (fun k v => v.1 = nI k ∧ v.2 271 = evesF n (ruH ru) ru (M 271) k ∧ zag mrA M v.2) ⟨rfl, rfl, zag.rf⟩ hcc ?_ ?_
  · rintro k ⟨x, M1⟩ hk ⟨rfl, e1, g1⟩
    simp only at e1 g1 ⊢
    unfold b_X12_evenings_2
    have v1 : M1 242 18 = nI l := by rw [mr18 g1]; exact hv
    have s1 := hs.mr g1
    have hle : 9990 * (k + 1) ≤ 9990 * c := Nat.mul_le_mul_left _ (by omega)
    rw [Nat.mul_succ] at hle
    have gk := hg.eves (how := ruH ru) (ru := ru) k (by generalize 9990 * k = a at *; generalize 9990 * c = b at *; omega) (by omega)
    rw [← e1] at gk
    rw [v1, hR.at (k := 26) (b := 255) rfl (by decide), ztn_nI (by have := hs.1; omega), s1.2.2.2.1]
    refine zT_if0 (nI_ge hk (Nat.lt_of_le_of_lt (Nat.le_add_left c S) hS)) (zT_ck (zin_nI hs.1 (by omega)) (zT_bd ?_))
    refine zT_w (X12_evening hR s1 hok v1 gk (by generalize 9990 * k = a at *; generalize 9990 * c = b at *; omega) (by omega) hok.1) ?_
    rintro M2 ⟨e2, g2⟩
    refine zT_some ⟨nI_1 k, ?_, g1.tr g2⟩
    show M2 271 = _
    rw [e2, e1]
    rfl
  · rintro ⟨x, M1⟩ ⟨rfl, e1, g1⟩
    simp only at e1 g1 ⊢
    unfold b_X12_evenings_2
    exact zT_if1 (nI_le (Nat.le_refl _) (Nat.lt_of_le_of_lt (Nat.le_add_left c S) hS)) (zT_some (zT_some ⟨e1, g1⟩))

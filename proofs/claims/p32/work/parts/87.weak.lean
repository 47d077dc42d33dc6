/-! THE CLASS AS IT STANDS: evenings, what is kept, foresight, deals -/
section KW
variable {R : zR} {M0 M M1 : zM} {L0 L L1 : zL} {q r : Nat} {ru : zRu}
theorem kW.cla (C : kC R M0 q ru) (h : kW M0 L0 M L) (hr : kRg r) (g : zag (clA r q) M M1) {n : Nat} (hn : n ≤ 10) (e : M1 r 4 = nI n) : kW M0 L0 M1 L := by
  have hq := C.qq
  have hl := hr.lt
  refine ⟨h.1.tr (g.mo (fun a k z => ?_)), h.2.1, fun s hs => ?_⟩
  · rcases z with z | z | z | z | z
    · by_cases c : a = r
      · rw [c]
        exact hr.at
      · exact (hr.in_ (by omega) z.2).2 k
    · unfold kFp zsk; omega
    · unfold kFp zsk; omega
    · unfold kFp zsk; omega
    · unfold kFp zsk; omega
  · by_cases c : s = r
    · subst c
      exact ⟨n, hn, e⟩
    · obtain ⟨m, hm, f⟩ := h.n hs
      refine ⟨m, hm, ?_⟩
      rw [g s 4 ?_]
      · exact f
      · intro z
        have hs2 := hs.lt
        rcases z with z | z | z | z | z
        · by_cases c2 : s = r
          · exact c c2
          · exact (hr.in_ (by omega) z.2).1 hs
        · omega
        · omega
        · omega
        · omega
theorem X7earn_w (C : kC R M0 q ru) (hr : kRg r) (h : kW M0 L0 M L) : zT (f_X7_earn R M q r) (fun M1 => kW M0 L0 M1 L) := by
  obtain ⟨n, w, hw⟩ := h.rw hr
  have hl := hr.lt
  have hq := C.qq
  refine zT_w (X7_earn (h.cr C) C.ok (C.rg hr) hw (by omega)) ?_
  rintro M1 ⟨w1, g1⟩
  exact h.cla C hr g1 w1.1 w1.2.1
theorem want_ag (hq : q = 218 ∨ q = 230) (h : kW M0 L0 M L) (g : zag (fun b _ => b = q + 4 ∨ b = q + 8 ∨ b = q + 10) M M1) : kW M0 L0 M1 L := h.ag g (fun a k z => by
  unfold kFp zsk kRg
  omega)
theorem want_w (C : kC R M0 q ru) (hr : kRg r) (h : kW M0 L0 M L) (x : Int32) : zT (f_X7_wanted R M q r x) (fun p => kW M0 L0 p.2 L) := by
  obtain ⟨n, w, hw⟩ := h.rw hr
  have hl := hr.lt
  have hq := C.qq
  have hn := hw.1
  rcases nI_cases x n (by omega) with ⟨k, hk, rfl⟩ | hx
  · refine zT_w (X7_wanted (h.cr C) C.ok (C.rg hr) hw (by omega) hk) ?_
    rintro ⟨y, M1⟩ ⟨_, g⟩
    exact want_ag hq h g
  · unfold f_X7_wanted
    exact zT_bd (zT_eq (hz_no hw hx) (zT_if1 rfl (zT_some h)))
theorem gap_w (C : kC R M0 q ru) (hr : kRg r) (h : kW M0 L0 M L) (x : Int32) : zT (f_X7_gapOf R M q r x) (fun p => kW M0 L0 p.2 L) := by
  obtain ⟨n, w, hw⟩ := h.rw hr
  have hl := hr.lt
  have hq := C.qq
  have hn := hw.1
  rcases nI_cases x n (by omega) with ⟨k, hk, rfl⟩ | hx
  · refine zT_w (X7_gapOf (h.cr C) (C.rg hr) hw (by omega) hk) ?_
    rintro ⟨y, M1⟩ ⟨_, g⟩
    exact want_ag hq h (g.mo (fun b k z => by unfold lkA at z; omega))
  · unfold f_X7_gapOf
    exact zT_bd (zT_eq (hz_no hw hx) (zT_if1 rfl (zT_some h)))
theorem turns_w (C : kC R M0 q ru) (hr : kRg r) (h : kW M0 L0 M L) {s : Nat} (hs : s ≤ 10) : zT (n_X7_payByTurns R M L q r (nI s)) (fun p => kW M0 L0 p.1 p.2) := by
  unfold n_X7_payByTurns
  refine zT_bd (zT_w (Q := fun p => kW M0 L0 p.1 p.2) ?_ (fun p hp => zT_bd (zT_w (Q := fun p => kW M0 L0 p.1 p.2) ?_ (fun p hp => zT_some hp))))
  · refine zT_for (10 - s) (fun k v => v.1 = nI (s + k) ∧ kW M0 L0 v.2.1 v.2.2) ⟨rfl, h⟩ (by omega) ?_ ?_
    · rintro k ⟨x, M2, L2⟩ hk ⟨rfl, g⟩
      dsimp only at g ⊢
      unfold nb_X7_payByTurns_2
      refine zT_if (fun _ => zT_some g) (fun _ => zT_bd2 (zT_w (want_w C hr g _) ?_))
      rintro ⟨y, M3⟩ g3
      refine zT_bd2 (zT_w (pay_w C hr g3 _ _) ?_)
      rintro ⟨M4, L4⟩ g4
      exact zT_some ⟨nI_1 (s + k), g4⟩
    · rintro ⟨x, M2, L2⟩ ⟨rfl, g⟩
      dsimp only at g ⊢
      unfold nb_X7_payByTurns_2
      obtain ⟨n, hn, e⟩ := g.n hr
      rw [e]
      exact zT_if1 (nI_le (by omega) (by omega)) (zT_some g)
  · refine zT_for s (fun k v => v.1 = nI k ∧ kW M0 L0 v.2.1 v.2.2) ⟨rfl, hp⟩ (by omega) ?_ ?_
    · rintro k ⟨x, M2, L2⟩ hk ⟨rfl, g⟩
      dsimp only at g ⊢
      unfold nb_X7_payByTurns_29
      refine zT_if (fun _ => zT_some g) (fun _ => zT_bd2 (zT_w (want_w C hr g _) ?_))
      rintro ⟨y, M3⟩ g3
      refine zT_bd2 (zT_w (pay_w C hr g3 _ _) ?_)
      rintro ⟨M4, L4⟩ g4
      exact zT_some ⟨nI_1 k, g4⟩
    · rintro ⟨x, M2, L2⟩ ⟨rfl, g⟩
      dsimp only at g ⊢
      unfold nb_X7_payByTurns_29
      exact zT_if1 (Int32.le_refl _) (zT_some g)
theorem kC.q4 (C : kC R M0 q ru) : R q 4 = q + 11 := C.cr.2.2.2.1
theorem once_w (C : kC R M0 q ru) (hr : kRg r) (h : kW M0 L0 M L) : zT (n_X7_payAtOnce R M L q r) (fun p => kW M0 L0 p.1 p.2) := by
  have hq := C.qq
  unfold n_X7_payAtOnce
  refine zT_bd (zT_w (Q := fun M1 => kW M0 L0 M1 L) ?_ (fun M1 h1 => zT_bd (zT_w (Q := fun p => kW M0 L0 p.1 p.2) ?_ (fun p hp => zT_some hp))))
  · refine zT_for 10 (fun k v => v.1 = nI k ∧ kW M0 L0 v.2 L) ⟨rfl, h⟩ (by omega) ?_ ?_
    · rintro k ⟨x, M2⟩ hk ⟨rfl, g⟩
      dsimp only at g ⊢
      unfold nb_X7_payAtOnce_2
      refine zT_if (fun _ => zT_some g) (fun _ => zT_if0 (by rw [nI_lit 10]; exact nI_ge hk (by omega)) (zT_bd2 (zT_w (want_w C hr g _) ?_)))
      rintro ⟨y, M3⟩ g3
      dsimp only at g3 ⊢
      rw [C.q4]
      exact zT_ck (zin_nI hk (by omega)) (zT_lt (zT_some ⟨nI_1 k, g3.up (by unfold kFp zsk; omega) (by unfold kRg; omega)⟩))
    · rintro ⟨x, M2⟩ ⟨rfl, g⟩
      dsimp only at g ⊢
      unfold nb_X7_payAtOnce_2
      exact zT_if (fun _ => zT_some g) (fun _ => zT_if1 (by decide) (zT_some g))
  · refine zT_for 10 (fun k v => v.1 = nI k ∧ kW M0 L0 v.2.1 v.2.2) ⟨rfl, h1⟩ (by omega) ?_ ?_
    · rintro k ⟨x, M2, L2⟩ hk ⟨rfl, g⟩
      dsimp only at g ⊢
      unfold nb_X7_payAtOnce_39
      refine zT_if (fun _ => zT_some g) (fun _ => zT_if0 (by rw [nI_lit 10]; exact nI_ge hk (by omega)) (zT_ck (zin_nI hk (by omega)) (zT_bd2 (zT_w (pay_w C hr g _ _) ?_))))
      rintro ⟨M4, L4⟩ g4
      exact zT_some ⟨nI_1 k, g4⟩
    · rintro ⟨x, M2, L2⟩ ⟨rfl, g⟩
      dsimp only at g ⊢
      unfold nb_X7_payAtOnce_39
      exact zT_if (fun _ => zT_some g) (fun _ => zT_if1 (by decide) (zT_some g))
theorem eve26_w (C : kC R M0 q ru) (hr : kRg r) (h : kW M0 L0 M L) (x : Int32) : zT (nj_X7_evening_26 R M L q r x) (fun p => kW M0 L0 p.1 p.2) := by
  unfold nj_X7_evening_26
  refine zT_lt ?_
  have h2 := h.rup (k := 6) (v := M r 6 + 1) hr (Nat.le_refl _) (by omega) (by omega)
  generalize zup M r 6 (M r 6 + 1) = M2 at h2 ⊢
  refine zT_if (fun _ => zT_some h2) (fun hz => zT_ck (znz_w (Int32.not_le.1 hz)) (zT_if (fun _ => ?_) (fun _ => zT_some h2)))
  exact zT_bd2 (zT_w (share_w C hr h2 x) (fun p hp => zT_some hp))
theorem eve_w (C : kC R M0 q ru) (hr : kRg r) (h : kW M0 L0 M L) (x : Int32) : zT (n_X7_evening R M L q r x) (fun p => kW M0 L0 p.1 p.2) := by
  unfold n_X7_evening
  refine zT_bd (zT_w (X7earn_w C hr h) (fun M1 h1 => zT_if (fun _ => ?_) (fun _ => ?_)))
  · exact zT_bd2 (zT_w (once_w C hr h1) (fun p hp => eve26_w C hr hp x))
  · exact zT_bd2 (zT_w (turns_w (s := 0) C hr h1 (by omega)) (fun p hp => eve26_w C hr hp x))
theorem eves_w (C : kC R M0 q ru) (hr : kRg r) (h : kW M0 L0 M L) {c : Nat} (hc : c < 999999) (x : Int32) : zT (n_X7_evenings R M L q r (nI c) x) (fun p => kW M0 L0 p.1 p.2) := by
  unfold n_X7_evenings
  refine zT_bd (zT_w (Q := fun p => kW M0 L0 p.1 p.2) ?_ (fun p hp => zT_some hp))
  refine zT_for c (fun k v => v.1 = nI k ∧ kW M0 L0 v.2.1 v.2.2) ⟨rfl, h⟩ (by omega) ?_ ?_
  · rintro k ⟨y, M2, L2⟩ hk ⟨rfl, g⟩
    dsimp only at g ⊢
    unfold nb_X7_evenings_3
    exact zT_if0 (nI_ge hk (by omega)) (zT_bd2 (zT_w (eve_w C hr g x) (fun p hp => zT_some ⟨nI_1 k, hp⟩)))
  · rintro ⟨y, M2, L2⟩ ⟨rfl, g⟩
    dsimp only at g ⊢
    unfold nb_X7_evenings_3
    exact zT_if1 (Int32.le_refl _) (zT_some g)
/-! what is kept -/
theorem k13 : kRg 13 := Or.inl rfl
theorem note70_w (h : kW M0 L0 M L) (x : Int32) : zT (nj_X2_note_70 R M L 18 18 x) (fun p => kW M0 L0 p.1 p.2) := by
  unfold nj_X2_note_70
  refine zT_lt ?_
  have h2 := h.up (a := 18) (k := 3) (v := x) (by unfold kFp zsk; omega) (by unfold kRg; omega)
  generalize zup M 18 3 x = M2 at h2 ⊢
  exact zT_if (fun _ => zT_some h2) (fun _ => zT_lt (zT_some (h2.up (by unfold kFp zsk; omega) (by unfold kRg; omega))))
theorem note_w (C : kC R M0 q ru) (h : kW M0 L0 M L) : zT (n_X2_note R M L 18 13) (fun p => kW M0 L0 p.1 p.2) := by
  unfold n_X2_note
  obtain ⟨k1, k2, k3, k4, k5, k6⟩ := C.kr
  refine zT_if (fun _ => zT_some h) (fun h0 => zT_if (fun _ => zT_some h) (fun h1 => ?_))
  rcases nI_cases (M 18 3) 30 (by omega) with ⟨x, hx, e⟩ | e | e
  rotate_left
  · exact absurd e h0
  · exact absurd e h1
  have hz := zin_nI (k := x) (n := 30) hx (by omega)
  rw [e, k1, ztn_nI (by omega), (k4 x hx).1]
  refine zT_ck hz (zT_ck hz (zT_bd2 (zT_w (copy_w C (kRg.sp x (by omega)) k13 h) ?_)))
  rintro ⟨M2, L2⟩ h2
  dsimp only at h2 ⊢
  exact zT_if (fun _ => note70_w h2 _) (fun _ => note70_w h2 _)
theorem back32_w (C : kC R M0 q ru) (h : kW M0 L0 M L) {x : Int32} (h0 : ¬ x < 0) : zT (nj_X2_takeBack_32 R M L 18 13 x) (fun p => (p.1 = 0 ∨ p.1 = 1) ∧ kW M0 L0 p.2.1 p.2.2) := by
  unfold nj_X2_takeBack_32
  obtain ⟨k1, k2, k3, k4, k5, k6⟩ := C.kr
  refine zT_if (fun _ => zT_some ⟨Or.inl rfl, h⟩) (fun h1 => ?_)
  rcases nI_cases x 30 (by omega) with ⟨j, hj, rfl⟩ | e | e
  rotate_left
  · exact absurd e h0
  · exact absurd e h1
  have hz := zin_nI (k := j) (n := 30) hj (by omega)
  rw [k1, ztn_nI (by omega), (k4 j hj).1]
  refine zT_ck hz (zT_ck hz (zT_bd2 (zT_w (copy_w C k13 (kRg.sp j (by omega)) h) ?_)))
  rintro ⟨M2, L2⟩ h2
  dsimp only at h2 ⊢
  refine zT_lt (zT_lt (zT_some ⟨Or.inr rfl, ?_⟩))
  exact (h2.up (by unfold kFp zsk; omega) (by unfold kRg; omega)).up (by unfold kFp zsk; omega) (by unfold kRg; omega)
theorem takeBack_w (C : kC R M0 q ru) (h : kW M0 L0 M L) : zT (n_X2_takeBack R M L 18 13) (fun p => (p.1 = 0 ∨ p.1 = 1) ∧ kW M0 L0 p.2.1 p.2.2) := by
  unfold n_X2_takeBack
  refine zT_if (fun _ => zT_if (fun _ => back32_w C h (by decide)) (fun h1 => back32_w C h ?_)) (fun _ => zT_some ⟨Or.inl rfl, h⟩)
  have h2 : 0 < M 18 3 := Int32.not_le.1 h1
  obtain ⟨j, hj, e⟩ := nI_of (x := M 18 3) (fun z => Int32.lt_irrefl (Int32.lt_trans h2 z))
  rw [e] at h2 ⊢
  have hj0 : 0 < j := by
    rcases Nat.eq_zero_or_pos j with z | z
    · subst z
      exact absurd h2 (by decide)
    · exact z
  rw [show nI j - 1 = nI j + -1 from Int32.sub_eq_add_neg .., nI_dec hj0]
  exact nI_pos (by omega)
theorem isHeld_w (C : kC R M0 q ru) (M : zM) (x : Int32) : zT (f_X2_isHeld R M 18 x) (fun b => (b = 0 ∨ b = 1) ∧ (b ≠ 0 → ∃ s, s < 3 ∧ x = nI s)) := by
  unfold f_X2_isHeld
  obtain ⟨k1, k2, k3, k4, k5, k6⟩ := C.kr
  refine zT_if (fun _ => zT_some ⟨Or.inl rfl, fun z => absurd rfl z⟩) (fun h0 => zT_if (fun _ => zT_some ⟨Or.inl rfl, fun z => absurd rfl z⟩) (fun h1 => ?_))
  rcases nI_cases x 3 (by omega) with ⟨j, hj, rfl⟩ | e | e
  rotate_left
  · exact absurd e h0
  · exact absurd e h1
  exact zT_ck (zin_nI hj (by omega)) (zT_if (fun _ => zT_some ⟨Or.inl rfl, fun z => absurd rfl z⟩) (fun _ => zT_some ⟨Or.inr rfl, fun _ => ⟨j, hj, rfl⟩⟩))
theorem holdIn_w (C : kC R M0 q ru) (h : kW M0 L0 M L) (x : Int32) : zT (n_X2_holdIn R M L 18 x 13) (fun p => (((x < 0 ∨ nI 3 ≤ x) ∧ p.1 = 0 ∧ p.2.1 = M ∧ p.2.2 = L)) ∨ (∃ s, s < 3 ∧ x = nI s ∧ p.1 = 1 ∧ ∃ M1, kW M0 L0 M1 p.2.2 ∧ p.2.1 = zup M1 21 s 1)) := by
  unfold n_X2_holdIn
  obtain ⟨k1, k2, k3, k4, k5, k6⟩ := C.kr
  refine zT_if (fun z => zT_some (Or.inl ⟨Or.inl z, rfl, rfl, rfl⟩)) (fun h0 => zT_if (fun z => zT_some (Or.inl ⟨Or.inr z, rfl, rfl, rfl⟩)) (fun h1 => ?_))
  rcases nI_cases x 3 (by omega) with ⟨j, hj, rfl⟩ | e | e
  rotate_left
  · exact absurd e h0
  · exact absurd e h1
  have hz := zin_nI (k := j) (n := 3) hj (by omega)
  rw [k2, k3, ztn_nI (by omega), (k5 j hj).1, show 172 + 5 * j = 22 + 5 * (30 + j) by omega]
  refine zT_ck hz (zT_ck hz (zT_bd2 (zT_w (copy_w C (kRg.sp (30 + j) (by omega)) k13 h) ?_)))
  rintro ⟨M2, L2⟩ h2
  exact zT_ck hz (zT_lt (zT_some (Or.inr ⟨j, hj, rfl, rfl, M2, h2, rfl⟩)))
theorem bring_w (C : kC R M0 q ru) (h : kW M0 L0 M L) (x : Int32) : zT (n_X2_bringBack R M L 18 x 13) (fun p => (p.1 = 0 ∨ p.1 = 1) ∧ kW M0 L0 p.2.1 p.2.2) := by
  unfold n_X2_bringBack
  obtain ⟨k1, k2, k3, k4, k5, k6⟩ := C.kr
  refine zT_bd (zT_w (isHeld_w C M x) (fun b hb => zT_if (fun _ => zT_some ⟨Or.inl rfl, h⟩) (fun hh => ?_)))
  obtain ⟨j, hj, rfl⟩ := hb.2 hh
  have hz := zin_nI (k := j) (n := 3) hj (by omega)
  rw [k2, ztn_nI (by omega), (k5 j hj).1, show 172 + 5 * j = 22 + 5 * (30 + j) by omega]
  exact zT_ck hz (zT_ck hz (zT_bd2 (zT_w (copy_w C k13 (kRg.sp (30 + j) (by omega)) h) (fun p hp => zT_some ⟨Or.inr rfl, hp⟩))))
theorem held_w (C : kC R M0 q ru) (M : zM) : zT (f_X2_heldSlots R M 18) (fun _ => True) := by
  unfold f_X2_heldSlots
  refine zT_bd (zT_w (Q := fun _ => True) ?_ (fun _ _ => zT_some trivial))
  refine zT_for 3 (fun k v => v.2 = nI k) rfl (by omega) ?_ ?_
  · rintro k ⟨x1, x2⟩ hk e
    dsimp only at e ⊢
    subst e
    unfold b_X2_heldSlots_4
    exact zT_if0 (by rw [nI_lit 3]; exact nI_ge hk (by omega)) (zT_bd (zT_w (isHeld_w C M _) (fun b _ => zT_if (fun _ => zT_some (nI_1 k)) (fun _ => zT_some (nI_1 k)))))
  · rintro ⟨x1, x2⟩ e
    dsimp only at e ⊢
    subst e
    unfold b_X2_heldSlots_4
    exact zT_if1 (by decide) (zT_some trivial)
/-! deals -/
theorem k195 : kRg 195 := Or.inr (Or.inr (Or.inl rfl))
theorem k188 : kRg 188 := Or.inr (Or.inl rfl)
theorem k201 : kRg 201 := Or.inr (Or.inr (Or.inr (Or.inl rfl)))
theorem k213 : kRg 213 := Or.inr (Or.inr (Or.inr (Or.inr (Or.inl rfl))))
theorem u194 (h : kW M0 L0 M L) {k : Nat} {v : Int32} : kW M0 L0 (zup M 194 k v) L := h.up (by unfold kFp zsk; omega) (by unfold kRg; omega)
theorem better_w (h : kW M0 L0 M L) (x y z : Int32) : zT (f_X0_better M 194 x y z) (fun M1 => kW M0 L0 M1 L) := by
  unfold f_X0_better
  exact zT_if (fun _ => zT_lt (zT_lt (zT_lt (zT_some (u194 (u194 (u194 h))))))) (fun _ => zT_some h)
theorem kC.d0 (C : kC R M0 q ru) : R 194 0 = 195 := C.rt.2.2.2.1
theorem start_w (C : kC R M0 q ru) (h : kW M0 L0 M L) (x : Int32) : zT (n_X0_findStart R M L 194 q 13 x) (fun p => kW M0 L0 p.1 p.2) := by
  unfold n_X0_findStart
  refine zT_lt (zT_bd (zT_w (Q := fun p => kW M0 L0 p.1 p.2) ?_ (fun p hp => zT_some hp)))
  refine zT_for 10 (fun k v => v.1 = nI k ∧ kW M0 L0 v.2.1 v.2.2) ⟨rfl, u194 h⟩ (by omega) ?_ ?_
  · rintro k ⟨y, M2, L2⟩ hk ⟨rfl, g⟩
    dsimp only at g ⊢
    unfold nb_X0_findStart_8
    rw [C.d0]
    refine zT_if (fun _ => zT_some g) (fun _ => zT_bd2 (zT_w (copy_w C k195 k13 g) ?_))
    rintro ⟨M3, L3⟩ g3
    refine zT_bd2 (zT_w (turns_w (s := k) C k195 g3 (by omega)) ?_)
    rintro ⟨M4, L4⟩ g4
    dsimp only at g4 ⊢
    exact zT_bd (zT_w (purse_w R M4 195 x) (fun y _ => zT_bd (zT_w (better_w g4 _ _ _) (fun M5 g5 => zT_some ⟨nI_1 k, g5⟩))))
  · rintro ⟨y, M2, L2⟩ ⟨rfl, g⟩
    dsimp only at g ⊢
    unfold nb_X0_findStart_8
    obtain ⟨n, hn, e⟩ := g.n k13
    rw [e]
    exact zT_if1 (nI_le (by omega) (by omega)) (zT_some g)
theorem less_w (C : kC R M0 q ru) (h : kW M0 L0 M L) (x y z : Int32) : zT (n_X0_lessPaid R M L 194 q 13 x y z) (fun p => kW M0 L0 p.2.1 p.2.2) := by
  unfold n_X0_lessPaid
  rw [C.d0]
  refine zT_bd2 (zT_w (copy_w C k195 k13 h) ?_)
  rintro ⟨M1, L1⟩ h1
  refine zT_bd2 (zT_w (eve_w C k195 h1 _) ?_)
  rintro ⟨M2, L2⟩ h2
  dsimp only at h2 ⊢
  refine zT_bd (zT_w (paid_w R M2 195 y) (fun _ _ => zT_bd2 (zT_w (copy_w C k195 k13 h2) ?_)))
  rintro ⟨M3, L3⟩ h3
  dsimp only at h3 ⊢
  refine zT_bd (zT_w (earn_w C k195 h3 _ _) (fun M4 h4 => zT_bd2 (zT_w (eve_w C k195 h4 _) ?_)))
  rintro ⟨M5, L5⟩ h5
  dsimp only at h5 ⊢
  exact zT_bd (zT_w (paid_w R M5 195 y) (fun _ _ => zT_some h5))
theorem isFree28_w (C : kC R M0 q ru) (h : kW M0 L0 M L) (x y z : Int32) {b : Int32} (hb : zbool b = true) : zT (j_X0_isFreeBy_28 R M 194 x y z b) (fun p => kW M0 L0 p.2 L) := by
  unfold j_X0_isFreeBy_28
  rw [C.d0]
  exact zT_bd (zT_w (move_w C k195 h _ _ _) (fun M1 h1 => zT_ck hb (zT_some h1)))
theorem isFree_w (C : kC R M0 q ru) (h : kW M0 L0 M L) (x y z : Int32) : zT (f_X0_isFreeBy R M 194 q x y z) (fun p => kW M0 L0 p.2 L) := by
  unfold f_X0_isFreeBy
  rw [C.d0]
  refine zT_bd (zT_w (move_w C k195 h _ _ _) (fun M1 h1 => zT_bd2 (zT_w (want_w C k195 h1 _) ?_)))
  rintro ⟨y2, M2⟩ h2
  exact zT_if (fun _ => isFree28_w C h2 _ _ _ (by decide)) (fun _ => isFree28_w C h2 _ _ _ (by decide))
theorem least_w (C : kC R M0 q ru) (h : kW M0 L0 M L) (x : Int32) : zT (n_X0_findLeastGift R M L 194 q 13 x) (fun p => kW M0 L0 p.1 p.2) := by
  unfold n_X0_findLeastGift
  rw [C.d0]
  refine zT_lt (zT_lt (zT_bd2 (zT_w (copy_w C k195 k13 (u194 (u194 h))) ?_)))
  rintro ⟨M1, L1⟩ h1
  refine zT_bd2 (zT_w (want_w C k195 h1 _) ?_)
  rintro ⟨y, M2⟩ h2
  dsimp only at h2 ⊢
  refine zT_if (fun _ => zT_some h2) (fun _ => zT_bd (zT_w (shown_w R M2 13 x) (fun z _ => ?_)))
  have hle : (if (2000 : Int32) < z then (2000 : Int32) else z) ≤ 2000 := by
    by_cases c : (2000 : Int32) < z
    · rw [if_pos c]
      exact Int32.le_refl _
    · rw [if_neg c]
      exact Int32.not_lt.1 c
  generalize (if (2000 : Int32) < z then (2000 : Int32) else z) = m at hle ⊢
  refine zT_bd (zT_w (Q := Sum.elim (fun e => kW M0 L0 e.2.2 L1) (fun e => kW M0 L0 e L1)) ?_ ?_)
  · refine zT_for 2000 (fun k v => v.1 = nI (k + 1) ∧ kW M0 L0 v.2 L1) ⟨rfl, h2⟩ (by omega) ?_ ?_
    · rintro k ⟨y2, M3⟩ hk ⟨rfl, g⟩
      dsimp only at g ⊢
      unfold nb_X0_findLeastGift_48
      refine zT_if (fun _ => zT_some g) (fun _ => zT_bd (zT_w (Q := Sum.elim (fun e => kW M0 L0 e.2 L1) (fun e => kW M0 L0 e L1)) ?_ ?_))
      · refine zT_for 10 (fun j v => v.1 = nI j ∧ kW M0 L0 v.2 L1) ⟨rfl, g⟩ (by omega) ?_ ?_
        · rintro j ⟨y3, M4⟩ hj ⟨rfl, g4⟩
          dsimp only at g4 ⊢
          unfold nb_X0_findLeastGift_58
          refine zT_if (fun _ => zT_some g4) (fun _ => zT_if (fun _ => zT_some ⟨nI_1 j, g4⟩) (fun _ => zT_bd2 (zT_w (isFree_w C g4 _ _ _) ?_)))
          rintro ⟨y4, M5⟩ g5
          exact zT_if (fun _ => zT_some ⟨nI_1 j, g5⟩) (fun _ => zT_some g5)
        · rintro ⟨y3, M4⟩ ⟨rfl, g4⟩
          dsimp only at g4 ⊢
          unfold nb_X0_findLeastGift_58
          obtain ⟨n, hn, e⟩ := g4.n k13
          rw [e]
          exact zT_if1 (nI_le (by omega) (by omega)) (zT_some g4)
      · rintro (e | e) he
        · exact zT_some he
        · exact zT_some ⟨nI_1 (k + 1), he⟩
    · rintro ⟨y2, M3⟩ ⟨rfl, g⟩
      dsimp only at g ⊢
      unfold nb_X0_findLeastGift_48
      exact zT_if1 (Int32.lt_of_le_of_lt hle (by decide)) (zT_some g)
  · rintro (e | e) he
    · exact zT_lt (zT_lt (zT_some (u194 (u194 he))))
    · exact zT_lt (zT_some (u194 he))
theorem best_w (C : kC R M0 q ru) (h : kW M0 L0 M L) (x y : Int32) {c : Nat} (hc : c ≤ 30) : zT (n_X0_findBestGift R M L 194 q 13 x y (nI c)) (fun p => kW M0 L0 p.1 p.2) := by
  unfold n_X0_findBestGift
  rw [C.d0]
  refine zT_bd2 (zT_w (copy_w C k195 k13 h) ?_)
  rintro ⟨M1, L1⟩ h1
  refine zT_bd2 (zT_w (eves_w C k195 h1 (by omega) _) ?_)
  rintro ⟨M2, L2⟩ h2
  dsimp only at h2 ⊢
  refine zT_lt (zT_bd (zT_w (purse_w R _ 195 x) (fun y2 _ => zT_bd (zT_w (better_w (u194 h2) _ _ _) (fun M3 h3 => zT_bd (zT_w (Q := fun p => kW M0 L0 p.1 p.2) ?_ (fun p hp => zT_some hp)))))))
  refine zT_for 20 (fun k v => v.1 = nI (k + 1) ∧ kW M0 L0 v.2.1 v.2.2) ⟨rfl, h3⟩ (by omega) ?_ ?_
  · rintro k ⟨y3, M4, L4⟩ hk ⟨rfl, g⟩
    dsimp only at g ⊢
    unfold nb_X0_findBestGift_45
    refine zT_if (fun _ => zT_some g) (fun _ => zT_bd (zT_w (shown_w R M4 13 x) (fun z _ => zT_if (fun _ => zT_some g) (fun _ => zT_bd (zT_w (Q := fun p => kW M0 L0 p.1 p.2) ?_ (fun p hp => zT_some ⟨nI_1 (k + 1), hp⟩))))))
    refine zT_for 10 (fun j v => v.1 = nI j ∧ kW M0 L0 v.2.1 v.2.2) ⟨rfl, g⟩ (by omega) ?_ ?_
    · rintro j ⟨y4, M5, L5⟩ hj ⟨rfl, g5⟩
      dsimp only at g5 ⊢
      unfold nb_X0_findBestGift_68
      rw [C.d0]
      refine zT_if (fun _ => zT_some g5) (fun _ => zT_if (fun _ => zT_some ⟨nI_1 j, g5⟩) (fun _ => zT_bd2 (zT_w (copy_w C k195 k13 g5) ?_)))
      rintro ⟨M6, L6⟩ g6
      refine zT_bd (zT_w (move_w C k195 g6 _ _ _) (fun M7 g7 => zT_bd2 (zT_w (eves_w C k195 g7 (by omega) _) ?_)))
      rintro ⟨M8, L8⟩ g8
      dsimp only at g8 ⊢
      exact zT_bd (zT_w (purse_w R M8 195 x) (fun y5 _ => zT_bd (zT_w (better_w g8 _ _ _) (fun M9 g9 => zT_some ⟨nI_1 j, g9⟩))))
    · rintro ⟨y4, M5, L5⟩ ⟨rfl, g5⟩
      dsimp only at g5 ⊢
      unfold nb_X0_findBestGift_68
      obtain ⟨n, hn, e⟩ := g5.n k13
      rw [e]
      exact zT_if1 (nI_le (by omega) (by omega)) (zT_some g5)
  · rintro ⟨y3, M4, L4⟩ ⟨rfl, g⟩
    dsimp only at g ⊢
    unfold nb_X0_findBestGift_45
    exact zT_if1 (by decide) (zT_some g)
theorem rate45_w (C : kC R M0 q ru) (h : kW M0 L0 M L) (x y z b s : Int32) : zT (nj_X0_rate_45 R M L 194 q 13 x y z b s) (fun p => kW M0 L0 p.2.1 p.2.2) := by
  unfold nj_X0_rate_45
  rw [C.d0]
  refine zT_bd2 (zT_w (copy_w C k195 k13 h) ?_)
  rintro ⟨M1, L1⟩ h1
  dsimp only at h1 ⊢
  refine zT_bd (zT_w (move_w C k195 h1 _ _ _) (fun M2 h2 => zT_bd2 (zT_w (eve_w C k195 h2 _) ?_)))
  rintro ⟨M3, L3⟩ h3
  dsimp only at h3 ⊢
  refine zT_bd (zT_w (shown_w R M3 195 y) (fun w _ => zT_bd (zT_w (move_w C k195 h3 _ _ _) (fun M4 h4 => zT_if (fun _ => ?_) (fun _ => ?_)))))
  · exact zT_bd (zT_w (purse_w R M4 195 x) (fun _ _ => zT_some h4))
  · exact zT_bd (zT_w (purse_w R M4 195 y) (fun _ _ => zT_some h4))
theorem rate_w (C : kC R M0 q ru) (h : kW M0 L0 M L) (x y z b : Int32) : zT (n_X0_rate R M L 194 q 13 x y z b) (fun p => kW M0 L0 p.2.1 p.2.2) := by
  unfold n_X0_rate
  rw [C.d0]
  refine zT_bd2 (zT_w (copy_w C k195 k13 h) ?_)
  rintro ⟨M1, L1⟩ h1
  refine zT_bd2 (zT_w (eve_w C k195 h1 _) ?_)
  rintro ⟨M2, L2⟩ h2
  dsimp only at h2 ⊢
  refine zT_if (fun _ => ?_) (fun _ => ?_)
  · exact zT_bd (zT_w (purse_w R M2 195 x) (fun _ _ => rate45_w C h2 _ _ _ _ _))
  · exact zT_bd (zT_w (purse_w R M2 195 y) (fun _ _ => rate45_w C h2 _ _ _ _ _))
theorem site_w (C : kC R M0 q ru) (h : kW M0 L0 M L) (x : Int32) : zT (n_X0_bestSite R M L 194 q 13 x) (fun p => kW M0 L0 p.2.1 p.2.2) := by
  unfold n_X0_bestSite
  refine zT_bd (zT_w (Q := fun p => kW M0 L0 p.2.1 p.2.2) ?_ (fun p hp => zT_some hp))
  refine zT_for 11 (fun k v => v.2.2.1 = nI k ∧ kW M0 L0 v.2.2.2.1 v.2.2.2.2) ⟨rfl, h⟩ (by omega) ?_ ?_
  · rintro k ⟨a, b, y, M2, L2⟩ hk ⟨e, g⟩
    dsimp only at e g ⊢
    subst e
    unfold nb_X0_bestSite_11
    rw [C.d0]
    refine zT_if (fun _ => zT_some g) (fun _ => zT_bd2 (zT_w (copy_w C k195 k13 g) ?_))
    rintro ⟨M3, L3⟩ g3
    refine zT_bd2 (zT_w (insert_w C k195 g3 _ _) ?_)
    rintro ⟨M4, L4⟩ g4
    dsimp only at g4 ⊢
    refine zT_bd (zT_w (Q := fun p => kW M0 L0 p.2 L4) ?_ (fun p hp => zT_if (fun _ => zT_some ⟨nI_1 k, hp⟩) (fun _ => zT_some ⟨nI_1 k, hp⟩)))
    refine zT_for 10 (fun j v => v.2.1 = nI j ∧ kW M0 L0 v.2.2 L4) ⟨rfl, g4⟩ (by omega) ?_ ?_
    · rintro j ⟨s, y2, M5⟩ hj ⟨e5, g5⟩
      dsimp only at e5 g5 ⊢
      subst e5
      unfold nb_X0_bestSite_44
      rw [C.d0]
      refine zT_if (fun _ => zT_some g5) (fun _ => zT_bd2 (zT_w (want_w C k195 g5 _) ?_))
      rintro ⟨y3, M6⟩ g6
      exact zT_some ⟨nI_1 j, g6⟩
    · rintro ⟨s, y2, M5⟩ ⟨e5, g5⟩
      dsimp only at e5 g5 ⊢
      subst e5
      unfold nb_X0_bestSite_44
      rw [C.d0]
      obtain ⟨n, hn, e⟩ := g5.n k195
      rw [e]
      exact zT_if1 (nI_le (by omega) (by omega)) (zT_some g5)
  · rintro ⟨a, b, y, M2, L2⟩ ⟨e, g⟩
    dsimp only at e g ⊢
    subst e
    unfold nb_X0_bestSite_11
    obtain ⟨n, hn, e⟩ := g.n k13
    rw [e]
    exact zT_if1 (nI_lt (by omega) (by omega)) (zT_some g)
end KW

/-! THE CLASS AS IT STANDS: its calls -/
section KW
variable {R : zR} {M0 M M1 : zM} {L0 L L1 : zL} {q r : Nat} {ru : zRu}
theorem isE_w (x : Int32) : zT (f_X11_isEvenings x) (fun b => b ≠ 0 → ∃ c, c ≤ 300 ∧ x = nI c) := by
  unfold f_X11_isEvenings
  refine zT_if (fun _ => zT_some (fun z => absurd rfl z)) (fun h0 => zT_if (fun _ => zT_some (fun z => absurd rfl z)) (fun h1 => zT_some (fun _ => ?_)))
  exact nI_upto (e := 300) h0 (Int32.not_lt.1 h1) (by omega)
theorem isU_w (x : Int32) : zT (f_X11_isUnit x) (fun _ => True) := by
  unfold f_X11_isUnit
  exact zT_if (fun _ => zT_some trivial) (fun _ => zT_if (fun _ => zT_some trivial) (fun _ => zT_some trivial))
theorem isR_w (x : Int32) : zT (f_X11_isInRow x) (fun _ => True) := by
  unfold f_X11_isInRow
  exact zT_if (fun _ => zT_some trivial) (fun _ => zT_if (fun _ => zT_some trivial) (fun _ => zT_some trivial))
theorem isP_w (x : Int32) : zT (f_X11_isPurse x) (fun _ => True) := by
  unfold f_X11_isPurse
  exact zT_if (fun _ => zT_some trivial) (fun _ => zT_if (fun _ => zT_some trivial) (fun _ => zT_some trivial))
theorem house_c (C : kC R M0 q ru) (h : kW M0 L0 M L) (x y : Int32) : zT (n_X11_house R M L 2 x y) (fun p => kW M0 L0 p.2 L) := by
  unfold n_X11_house
  rw [C.x2, C.q8]
  refine zT_bd (zT_w (has_w M 13 x) (fun b hb => zT_if (fun _ => zT_some h) (fun hh => ?_)))
  obtain ⟨k, hk, rfl, _⟩ := hb hh
  have hz := zin_nI (k := k) (n := 10) hk (by omega)
  refine zT_if (fun _ => zT_ck hz (zT_some h)) (fun _ => zT_if (fun _ => zT_ck hz (zT_some h)) (fun _ => zT_if (fun _ => ?_) (fun _ => zT_if (fun _ => ?_) (fun _ => zT_if (fun _ => ?_) (fun _ => zT_if (fun _ => zT_ck hz (zT_some h)) (fun _ => zT_if (fun _ => zT_ck hz (zT_some h)) (fun _ => zT_some h)))))))
  · exact zT_bd (zT_w (shown_w R M 13 _) (fun _ _ => zT_some h))
  · exact zT_bd2 (zT_w (gap_w C k13 h _) (fun p hp => zT_some hp))
  · exact zT_bd2 (zT_w (want_w C k13 h _) (fun p hp => zT_some hp))
theorem run_c (C : kC R M0 q ru) (h : kW M0 L0 M L) (x : Int32) : zT (n_X11_run R M L 2 x) (fun p => kW M0 L0 p.2.1 p.2.2) := by
  unfold n_X11_run nj_X11_run_43
  rw [C.x2, C.x3, C.q8]
  refine zT_bd (zT_w (isE_w x) (fun b hb => zT_if (fun _ => zT_some h) (fun hh => zT_if (fun _ => zT_some h) (fun _ => ?_))))
  obtain ⟨c, hc, rfl⟩ := hb hh
  refine zT_bd2 (zT_w (note_w C h) ?_)
  rintro ⟨M1, L1⟩ h1
  exact zT_bd2 (zT_w (eves_w C k13 h1 (by omega) _) (fun p hp => zT_some hp))
theorem give_c (C : kC R M0 q ru) (h : kW M0 L0 M L) (x y z : Int32) : zT (n_X11_give R M L 2 x y z) (fun p => kW M0 L0 p.2.1 p.2.2) := by
  unfold n_X11_give
  rw [C.x2, C.x3]
  refine zT_bd (zT_w (has_w M 13 x) (fun b hb => zT_if (fun _ => zT_some h) (fun hh => zT_bd (zT_w (has_w M 13 y) (fun b2 hb2 => zT_if (fun _ => zT_some h) (fun hh2 => zT_if (fun _ => zT_some h) (fun _ => zT_if (fun _ => zT_some h) (fun _ => zT_bd (zT_w (shown_w R M 13 _) (fun s _ => zT_if (fun _ => ?_) (fun _ => zT_some h)))))))))))
  refine zT_bd2 (zT_w (note_w C h) ?_)
  rintro ⟨M1, L1⟩ h1
  exact zT_bd (zT_w (move_w C k13 h1 _ _ _) (fun M2 h2 => zT_some h2))
theorem hide_c (C : kC R M0 q ru) (h : kW M0 L0 M L) (x y : Int32) : zT (n_X11_hide R M L 2 x y) (fun p => kW M0 L0 p.2.1 p.2.2) := by
  unfold n_X11_hide
  obtain ⟨e0, e1, e2, e3⟩ := C.rg k13
  rw [C.x2, C.x3, e0, e1]
  refine zT_bd (zT_w (has_w M 13 x) (fun b hb => zT_if (fun _ => zT_some h) (fun hh => zT_if (fun _ => zT_some h) (fun _ => ?_))))
  obtain ⟨k, hk, rfl, _⟩ := hb hh
  have hz := zin_nI (k := k) (n := 10) hk (by omega)
  refine zT_ck hz (zT_if (fun _ => zT_bd2 (zT_w (note_w C h) ?_)) (fun _ => zT_some h))
  rintro ⟨M1, L1⟩ h1
  exact zT_ck hz (zT_lt (zT_some (h1.rup k13 (by omega) (by omega) (by omega))))
theorem grab_c (C : kC R M0 q ru) (h : kW M0 L0 M L) (x : Int32) : zT (n_X11_grab R M L 2 x) (fun p => kW M0 L0 p.2.1 p.2.2) := by
  unfold n_X11_grab
  obtain ⟨e0, e1, e2, e3⟩ := C.rg k13
  rw [C.x2, C.x3, e0]
  refine zT_bd (zT_w (has_w M 13 x) (fun b hb => zT_if (fun _ => zT_some h) (fun hh => ?_)))
  obtain ⟨k, hk, rfl, _⟩ := hb hh
  have hz := zin_nI (k := k) (n := 10) hk (by omega)
  refine zT_bd2 (zT_w (note_w C h) ?_)
  rintro ⟨M1, L1⟩ h1
  exact zT_ck hz (zT_ck hz (zT_lt (zT_lt (zT_some ((h1.rup k13 (by omega) (by omega) (by omega)).rup k13 (by omega) (by omega) (by omega))))))
theorem build_c (C : kC R M0 q ru) (h : kW M0 L0 M L) (x y : Int32) : zT (n_X11_build R M L 2 x y) (fun p => kW M0 L0 p.2.1 p.2.2) := by
  unfold n_X11_build
  rw [C.x2, C.x3]
  refine zT_if (fun _ => zT_some h) (fun _ => zT_if (fun _ => zT_some h) (fun _ => zT_bd (zT_w (full_w M 13) (fun b _ => zT_if (fun _ => zT_bd (zT_w (isP_w y) (fun b2 _ => zT_if (fun _ => zT_some h) (fun _ => zT_bd2 (zT_w (note_w C h) ?_))))) (fun _ => zT_some h)))))
  rintro ⟨M1, L1⟩ h1
  exact zT_bd2 (zT_w (insert_w C k13 h1 _ _) (fun p hp => zT_some hp))
theorem remove_w (C : kC R M0 q ru) (hr : kRg r) (h : kW M0 L0 M L) (x : Int32) : zT (n_X6_remove R M L r x) (fun p => kW M0 L0 p.1 p.2) := by
  unfold n_X6_remove
  obtain ⟨n, hn, e4⟩ := h.n hr
  refine zT_bd (zT_w (has_w M r x) (fun b hb => zT_if (fun _ => zT_some h) (fun hh => ?_)))
  obtain ⟨k, hk, rfl, hle⟩ := hb hh
  have hn1 : 1 ≤ n := by
    rcases Nat.lt_or_ge k n with z | z
    · omega
    · exact absurd (by rw [e4]; exact nI_le z (by omega)) hle
  refine zT_bd (zT_w (Q := fun p => kW M0 L0 p.1 p.2 ∧ p.1 r 4 = nI n) ?_ ?_)
  · refine zT_for (9 - k) (fun j v => v.1 = nI (k + 1 + j) ∧ kW M0 L0 v.2.1 v.2.2 ∧ v.2.1 r 4 = nI n) ⟨nI_1 k, h, e4⟩ (by omega) ?_ ?_
    · rintro j ⟨y, M1, L1⟩ hj ⟨rfl, g, g4⟩
      dsimp only at g g4 ⊢
      unfold nb_X6_remove_13
      refine zT_if0 (by rw [nI_lit 10]; exact nI_ge (by omega) (by omega)) (zT_bd (zT_w (has_w M1 r _) (fun b _ => zT_if (fun _ => zT_some ⟨g, g4⟩) (fun _ => zT_bd2 (zT_w (copyHouse_w4 C hr g _ _) ?_)))))
      rintro ⟨M2, L2⟩ ⟨g2, f2⟩
      exact zT_some ⟨nI_1 _, g2, f2.trans g4⟩
    · rintro ⟨y, M1, L1⟩ ⟨rfl, g, g4⟩
      dsimp only at g g4 ⊢
      unfold nb_X6_remove_13
      exact zT_if1 (by rw [nI_lit 10]; exact nI_le (by omega) (by omega)) (zT_some ⟨g, g4⟩)
  · rintro ⟨M1, L1⟩ ⟨g, g4⟩
    dsimp only at g g4 ⊢
    rw [g4, show nI n - 1 = nI n + -1 from Int32.sub_eq_add_neg .., nI_dec hn1]
    exact zT_lt (zT_some (g.cnt hr (by omega)))
theorem burn_c (C : kC R M0 q ru) (h : kW M0 L0 M L) (x : Int32) : zT (n_X11_burn R M L 2 x) (fun p => kW M0 L0 p.2.1 p.2.2) := by
  unfold n_X11_burn
  rw [C.x2, C.x3]
  refine zT_bd (zT_w (has_w M 13 x) (fun b hb => zT_if (fun _ => zT_some h) (fun hh => ?_)))
  obtain ⟨k, hk, rfl, _⟩ := hb hh
  refine zT_bd2 (zT_w (note_w C h) ?_)
  rintro ⟨M1, L1⟩ h1
  exact zT_ck (zin_nI hk (by omega)) (zT_bd2 (zT_w (remove_w C k13 h1 _) (fun p hp => zT_some hp)))
theorem merge_w (C : kC R M0 q ru) (hr : kRg r) (h : kW M0 L0 M L) (x y : Int32) : zT (n_X6_merge R M L r x y) (fun p => kW M0 L0 p.1 p.2) := by
  unfold n_X6_merge
  obtain ⟨e0, e1, e2, e3⟩ := C.rg hr
  refine zT_bd (zT_w (has_w M r x) (fun b hb => zT_if (fun _ => zT_some h) (fun hh => zT_bd (zT_w (has_w M r y) (fun b2 hb2 => zT_if (fun _ => zT_some h) (fun hh2 => ?_))))))
  obtain ⟨k, hk, rfl, _⟩ := hb hh
  obtain ⟨j, hj, rfl, _⟩ := hb2 hh2
  have hx := zin_nI (k := k) (n := 10) hk (by omega)
  have hy := zin_nI (k := j) (n := 10) hj (by omega)
  rw [e0, e1, e2, e3]
  refine zT_ck hx (zT_ck hy (zT_ck hx (zT_lt (zT_ck hx (zT_ck hy (zT_ck hx (zT_lt (zT_ck hx (zT_ck hy (zT_ck hx (zT_lt (zT_ck hx (zT_ck hy (zT_ck hx (zT_lt (zT_bd2 (zT_w (remove_w C hr ?_ _) (fun p hp => zT_some hp))))))))))))))))))
  exact (((h.rup hr (by omega) (by omega) (by omega)).rup hr (by omega) (by omega) (by omega)).rup hr (by omega) (by omega) (by omega)).rupL hr
theorem join96_w (C : kC R M0 q ru) (h : kW M0 L0 M L) (x y z : Int32) : zT (nj_X11_join_96 R M L 2 x 13 y z) (fun p => kW M0 L0 p.2.1 p.2.2) := by
  unfold nj_X11_join_96
  refine zT_bd2 (zT_w (merge_w C k13 h _ _) ?_)
  rintro ⟨M1, L1⟩ h1
  exact zT_bd (zT_w (purse_w R M1 _ _) (fun _ _ => zT_some h1))
theorem join59_w (C : kC R M0 q ru) (h : kW M0 L0 M L) (x y : Int32) : zT (nj_X11_join_59 R M L 2 x y) (fun p => kW M0 L0 p.2.1 p.2.2) := by
  unfold nj_X11_join_59
  rw [C.x2, C.x3]
  refine zT_bd2 (zT_w (note_w C h) ?_)
  rintro ⟨M1, L1⟩ h1
  dsimp only at h1 ⊢
  unfold nj_X11_join_79
  rw [C.x2]
  exact zT_if (fun _ => zT_if (fun _ => join96_w C h1 _ _ _) (fun _ => join96_w C h1 _ _ _)) (fun _ => zT_if (fun _ => join96_w C h1 _ _ _) (fun _ => join96_w C h1 _ _ _))
theorem join42_w (C : kC R M0 q ru) (h : kW M0 L0 M L) (x y : Int32) : zT (nj_X11_join_42 R M L 2 x y) (fun p => kW M0 L0 p.2.1 p.2.2) := by
  unfold nj_X11_join_42
  exact zT_if (fun _ => join59_w C h _ _) (fun _ => zT_if (fun _ => join59_w C h _ _) (fun _ => zT_some h))
theorem join_c (C : kC R M0 q ru) (h : kW M0 L0 M L) (x : Int32) : zT (n_X11_join R M L 2 x) (fun p => kW M0 L0 p.2.1 p.2.2) := by
  unfold n_X11_join
  rw [C.x2]
  exact zT_bd (zT_w (has_w M 13 x) (fun b hb => zT_if (fun _ => zT_some h) (fun hh => zT_if (fun _ => zT_if (fun _ => join42_w C h _ _) (fun _ => join42_w C h _ _)) (fun _ => zT_some h))))
theorem zbool_01 {b : Int32} (h : b = 0 ∨ b = 1) : zbool b = true := by
  rcases h with rfl | rfl <;> decide
theorem undo_c (C : kC R M0 q ru) (h : kW M0 L0 M L) : zT (n_X11_undo R M L 2) (fun p => kW M0 L0 p.2.1 p.2.2) := by
  unfold n_X11_undo
  rw [C.x2, C.x3]
  exact zT_bd3 (zT_w (takeBack_w C h) (fun p hp => zT_ck (zbool_01 hp.1) (zT_some hp.2)))
theorem becomes_c (C : kC R M0 q ru) (h : kW M0 L0 M L) (x : Int32) : zT (n_X11_becomes R M L 2 x) (fun p => kW M0 L0 p.2.1 p.2.2) := by
  unfold n_X11_becomes nj_X11_becomes_11 nj_X11_becomes_32
  rw [C.x2, C.x4, C.q8]
  have g : ∀ y : Int32, zT (zbd3 (n_X1_period R M L 187 q 13 y) fun r3 M4 L5 => some (r3, M4, L5)) (fun p => kW M0 L0 p.2.1 p.2.2) := fun y => zT_bd3 (zT_w (period_w C h y) (fun p hp => zT_some hp))
  exact zT_if (fun _ => zT_if (fun _ => g _) (fun _ => g _)) (fun _ => zT_if (fun _ => zT_if (fun _ => g _) (fun _ => g _)) (fun _ => zT_some h))
theorem apart_c (C : kC R M0 q ru) (h : kW M0 L0 M L) (x : Int32) : zT (n_X11_apart R M L 2 x) (fun p => kW M0 L0 p.2.1 p.2.2) := by
  unfold n_X11_apart
  rw [C.x2, C.x4, C.q8]
  refine zT_bd (zT_w (isE_w x) (fun b hb => zT_if (fun _ => zT_some h) (fun hh => ?_)))
  obtain ⟨c, hc, rfl⟩ := hb hh
  exact zT_bd3 (zT_w (spreadA_w C h hc) (fun p hp => zT_some hp))
theorem even_c (C : kC R M0 q ru) (h : kW M0 L0 M L) (x y : Int32) : zT (n_X11_even R M L 2 x y) (fun p => kW M0 L0 p.2.1 p.2.2) := by
  unfold n_X11_even
  rw [C.x2, C.x4, C.q8]
  exact zT_if (fun _ => zT_some h) (fun _ => zT_if (fun _ => zT_some h) (fun _ => zT_if (fun _ => zT_bd3 (zT_w (evenA_w C h _ _) (fun p hp => zT_some hp))) (fun _ => zT_some h)))
theorem soonest_c (C : kC R M0 q ru) (h : kW M0 L0 M L) (x : Int32) : zT (n_X11_soonest R M L 2 x) (fun p => kW M0 L0 p.2.1 p.2.2) := by
  unfold n_X11_soonest
  rw [C.x2, C.x4, C.q8]
  exact zT_if (fun _ => zT_bd3 (zT_w (soonest_w C h _) (fun p hp => zT_some hp))) (fun _ => zT_some h)
theorem start_c (C : kC R M0 q ru) (h : kW M0 L0 M L) (x y : Int32) : zT (n_X11_start R M L 2 x y) (fun p => kW M0 L0 p.2.1 p.2.2) := by
  unfold n_X11_start
  rw [C.x2, C.x5, C.q8]
  refine zT_bd (zT_w (has_w M 13 x) (fun b hb => zT_if (fun _ => zT_some h) (fun hh => zT_if (fun _ => zT_some h) (fun _ => zT_if (fun _ => zT_bd2 (zT_w (start_w C h _) ?_)) (fun _ => zT_some h)))))
  rintro ⟨M1, L1⟩ h1
  exact zT_if (fun _ => zT_some h1) (fun _ => zT_some h1)
theorem wealth_c (C : kC R M0 q ru) (h : kW M0 L0 M L) (x y z : Int32) : zT (n_X11_wealth R M L 2 x y z) (fun p => kW M0 L0 p.2.1 p.2.2) := by
  unfold n_X11_wealth
  rw [C.x2, C.x5, C.q8]
  exact zT_bd (zT_w (has_w M 13 x) (fun b hb => zT_if (fun _ => zT_some h) (fun hh => zT_bd (zT_w (has_w M 13 y) (fun b2 hb2 => zT_if (fun _ => zT_some h) (fun hh2 => zT_if (fun _ => zT_some h) (fun _ => zT_bd (zT_w (shown_w R M 13 _) (fun s _ => zT_if (fun _ => zT_bd3 (zT_w (less_w C h _ _ _) (fun p hp => zT_some hp))) (fun _ => zT_some h))))))))))
theorem free_c (C : kC R M0 q ru) (h : kW M0 L0 M L) (x y : Int32) : zT (n_X11_free R M L 2 x y) (fun p => kW M0 L0 p.2.1 p.2.2) := by
  unfold n_X11_free
  rw [C.x2, C.x5, C.q8]
  refine zT_bd (zT_w (has_w M 13 x) (fun b hb => zT_if (fun _ => zT_some h) (fun hh => zT_if (fun _ => zT_some h) (fun _ => zT_if (fun _ => zT_bd2 (zT_w (least_w C h _) ?_)) (fun _ => zT_some h)))))
  rintro ⟨M1, L1⟩ h1
  exact zT_if (fun _ => zT_some h1) (fun _ => zT_some h1)
theorem best_c (C : kC R M0 q ru) (h : kW M0 L0 M L) (x y z w : Int32) : zT (n_X11_best R M L 2 x y z w) (fun p => kW M0 L0 p.2.1 p.2.2) := by
  unfold n_X11_best
  rw [C.x2, C.x5, C.q8]
  refine zT_bd (zT_w (has_w M 13 x) (fun b hb => zT_if (fun _ => zT_some h) (fun hh => zT_bd (zT_w (isU_w y) (fun b2 _ => zT_if (fun _ => zT_some h) (fun _ => zT_if (fun _ => zT_some h) (fun h1 => zT_if (fun h2 => zT_if (fun _ => zT_some h) (fun _ => zT_if (fun _ => ?_) (fun _ => zT_some h))) (fun _ => zT_some h))))))))
  obtain ⟨c, hc, rfl⟩ := nI_upto (x := z) (e := 30) (fun q => h1 (Int32.lt_trans q (by decide))) h2 (by omega)
  refine zT_bd2 (zT_w (best_w C h _ _ hc) ?_)
  rintro ⟨M1, L1⟩ g1
  exact zT_if (fun _ => zT_some g1) (fun _ => zT_if (fun _ => zT_some g1) (fun _ => zT_some g1))
theorem loan_c (C : kC R M0 q ru) (h : kW M0 L0 M L) (x y z w : Int32) : zT (n_X11_loan R M L 2 x y z w) (fun p => kW M0 L0 p.2.1 p.2.2) := by
  unfold n_X11_loan
  rw [C.x2, C.x5, C.q8]
  exact zT_bd (zT_w (has_w M 13 x) (fun b hb => zT_if (fun _ => zT_some h) (fun hh => zT_bd (zT_w (has_w M 13 y) (fun b2 hb2 => zT_if (fun _ => zT_some h) (fun hh2 => zT_if (fun _ => zT_some h) (fun _ => zT_if (fun _ => zT_some h) (fun _ => zT_bd (zT_w (shown_w R M 13 _) (fun s _ => zT_if (fun _ => zT_bd3 (zT_w (rate_w C h _ _ _ _) (fun p hp => zT_some hp))) (fun _ => zT_some h)))))))))))
theorem site_c (C : kC R M0 q ru) (h : kW M0 L0 M L) (x : Int32) : zT (n_X11_site R M L 2 x) (fun p => kW M0 L0 p.2.1 p.2.2) := by
  unfold n_X11_site
  rw [C.x2, C.x5, C.q8]
  exact zT_bd (zT_w (isP_w x) (fun b _ => zT_if (fun _ => zT_some h) (fun _ => zT_bd (zT_w (full_w M 13) (fun b2 _ => zT_if (fun _ => zT_bd3 (zT_w (site_w C h _) (fun p hp => zT_some hp))) (fun _ => zT_some h))))))
theorem rests_c (C : kC R M0 q ru) (h : kW M0 L0 M L) (x y : Int32) : zT (n_X11_rests R M L 2 x y) (fun p => kW M0 L0 p.2.1 p.2.2) := by
  unfold n_X11_rests
  rw [C.x2, C.x6, C.q8]
  exact zT_bd (zT_w (isU_w x) (fun b _ => zT_if (fun _ => zT_some h) (fun _ => zT_if (fun _ => zT_if (fun _ => zT_bd3 (zT_w (rest_w C h _ _) (fun p hp => zT_some hp))) (fun _ => zT_some h)) (fun _ => zT_some h))))
theorem fits_c (C : kC R M0 q ru) (h : kW M0 L0 M L) (x y : Int32) : zT (n_X11_fits R M L 2 x y) (fun p => kW M0 L0 p.2.1 p.2.2) := by
  unfold n_X11_fits
  obtain ⟨n, hn, e4⟩ := h.n k13
  rw [C.x2, C.x7, C.q8, e4]
  exact zT_bd (zT_w (isR_w x) (fun b _ => zT_if (fun _ => zT_some h) (fun _ => zT_if (fun _ => zT_some h) (fun _ => zT_if (fun _ => zT_bd (zT_w (rowsUp_w x hn) (fun _ _ => zT_if (fun _ => zT_bd2 (zT_w (goFits_w C h _ _ _) (fun p hp => zT_some hp))) (fun _ => zT_some h)))) (fun _ => zT_some h)))))
theorem span_c (C : kC R M0 q ru) (h : kW M0 L0 M L) (x y z : Int32) : zT (n_X11_span R M L 2 x y z) (fun p => kW M0 L0 p.2.1 p.2.2) := by
  unfold n_X11_span
  obtain ⟨n, hn, e4⟩ := h.n k13
  rw [C.x2, C.x7, C.q8, e4]
  refine zT_bd (zT_w (isR_w x) (fun b _ => zT_if (fun _ => zT_some h) (fun _ => zT_if (fun _ => zT_some h) (fun _ => zT_if (fun _ => zT_some h) (fun _ => zT_bd (zT_w (has_w M 13 z) (fun b2 _ => zT_if (fun _ => zT_some h) (fun _ => zT_bd (zT_w (rowsUp_w x hn) (fun _ _ => zT_if (fun _ => zT_bd2 (zT_w (goFits_w C h _ _ _) ?_)) (fun _ => zT_some h))))))))))) 
  rintro ⟨M1, L1⟩ h1
  exact zT_if (fun _ => zT_some h1) (fun _ => zT_some h1)
theorem ago_c (C : kC R M0 q ru) (h : kW M0 L0 M L) (x : Int32) : zT (n_X11_ago R M L 2 x) (fun p => kW M0 L0 p.2.1 p.2.2) := by
  unfold n_X11_ago
  obtain ⟨n, hn, e4⟩ := h.n k13
  rw [C.x2, C.x7, C.q8, e4]
  exact zT_bd (zT_w (isR_w x) (fun b _ => zT_if (fun _ => zT_some h) (fun _ => zT_bd (zT_w (rowsUp_w x hn) (fun _ _ => zT_if (fun _ => zT_bd2 (zT_w (goAgo_w C h _) (fun p hp => zT_some hp))) (fun _ => zT_some h))))))
theorem hold_c (C : kC R M0 q ru) (h : kW M0 L0 M L) (x : Int32) : zT (n_X11_hold R M L 2 x) (fun p => ((x < 0 ∨ nI 3 ≤ x) ∧ p.1 = 0 ∧ p.2.1 = M ∧ p.2.2 = L) ∨ (∃ s, s < 3 ∧ x = nI s ∧ p.1 = 1 ∧ ∃ M1, kW M0 L0 M1 p.2.2 ∧ p.2.1 = zup M1 21 s 1)) := by
  unfold n_X11_hold
  rw [C.x2, C.x3]
  refine zT_bd3 (zT_w (holdIn_w C h x) (fun p hp => zT_ck (zbool_01 ?_) (zT_some hp)))
  rcases hp with ⟨_, e, _⟩ | ⟨_, _, _, e, _⟩
  · exact Or.inl e
  · exact Or.inr e
theorem restore_c (C : kC R M0 q ru) (h : kW M0 L0 M L) (x : Int32) : zT (n_X11_restore R M L 2 x) (fun p => kW M0 L0 p.2.1 p.2.2) := by
  unfold n_X11_restore f_X2_forgetPast
  rw [C.x2, C.x3]
  refine zT_bd3 (zT_w (bring_w C h x) (fun p hp => zT_if (fun _ => zT_some hp.2) (fun _ => zT_bd (zT_lt (zT_some (zT_some ?_))))))
  exact hp.2.up (by unfold kFp zsk; omega) (by unfold kRg; omega)
def kTo : Nat → Nat → Prop := fun b k => b = 208 ∨ b = 209 ∨ (b = 207 ∧ k = 6)
theorem tell_c (C : kC R M0 q ru) (M : zM) (x y : Int32) : zT (f_X11_tell R M 2 x y) (fun p => zag kTo M p.2) := by
  unfold f_X11_tell
  rw [C.x2, C.x7]
  refine zT_bd (zT_w (has_w M 13 x) (fun b hb => zT_if (fun _ => zT_some zag.rf) (fun hh => zT_if (fun _ => zT_some zag.rf) (fun _ => zT_if (fun _ => zT_bd2 (zT_w (Q := fun p => zag kTo M p.2) ?_ (fun p hp => zT_some hp))) (fun _ => zT_some zag.rf)))))
  unfold f_X10_add
  rw [C.t0, C.t1]
  refine zT_if (fun _ => zT_some zag.rf) (fun h0 => zT_if (fun h1 => ?_) (fun _ => zT_some zag.rf))
  have hz : zin (M 207 6) 20 = true := zin_g h0 (fun z => Int32.lt_irrefl (Int32.lt_of_lt_of_le h1 z)) (by omega) (by omega)
  have e6 : zup M 208 (ztn (M 207 6)) x 207 6 = M 207 6 := zup_a (by omega)
  refine zT_ck hz (zT_lt ?_)
  rw [e6]
  exact zT_ck hz (zT_lt (zT_lt (zT_some (((zag.rf.up (by unfold kTo; omega)).up (by unfold kTo; omega)).up (by unfold kTo; omega)))))
theorem forget_c (C : kC R M0 q ru) (M : zM) : zT (f_X11_forget R M 2) (fun p => zag kTo M p.2) := by
  unfold f_X11_forget f_X10_clear
  rw [C.x7]
  exact zT_bd (zT_lt (zT_some (zT_some (zag.rf.up (by unfold kTo; omega)))))
theorem count_c (C : kC R M0 q ru) (M : zM) (x : Int32) : zT (f_X11_count R M 2 x) (fun _ => True) := by
  unfold f_X11_count
  rw [C.x2, C.x3]
  have s : ∀ v : Int32, zT (some v) (fun _ => True) := fun v => zT_some trivial
  exact zT_if (fun _ => s _) (fun _ => zT_if (fun _ => zT_if (fun _ => s _) (fun _ => s _)) (fun _ => zT_if (fun _ => zT_if (fun _ => s _) (fun _ => s _)) (fun _ => zT_if (fun _ => s _) (fun _ => zT_if (fun _ => s _) (fun _ => zT_if (fun _ => s _) (fun _ => zT_if (fun _ => s _) (fun _ => zT_if (fun _ => zT_bd (zT_w (total_w R M 13) (fun _ _ => s _))) (fun _ => zT_if (fun _ => s _) (fun _ => zT_if (fun _ => s _) (fun _ => zT_if (fun _ => s _) (fun _ => zT_if (fun _ => s _) (fun _ => zT_if (fun _ => zT_bd (zT_w (held_w C M) (fun _ _ => s _))) (fun _ => s _)))))))))))))
end KW

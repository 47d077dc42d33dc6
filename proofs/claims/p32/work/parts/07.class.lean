def f_X0_better (M : zM) (a0 : Nat) (x1 : Int32) (x2 : Int32) (x3 : Int32) : Option (zM) :=
  if (M a0 3) < x1 then (
    zlt (zup M a0 3 x1) fun M2 =>
    zlt (zup M2 a0 1 x2) fun M3 =>
    zlt (zup M3 a0 2 x3) fun M4 =>
    some M4
  ) else (
    some M
  )
set_option maxRecDepth 4000 in
theorem ok_X0_better {G : zG} {K : zK} {R : zR} {M : zM} {L : zL} (hW : zWT R K) {a0 : Nat} {x1 : Int32} {x2 : Int32} {x3 : Int32} (k_a0 : K[a0]? = some (0, 4)) {M' : zM} (h : f_X0_better M a0 x1 x2 x3 = some M') : Rm G mt_X0_better [.ref a0, .int x1, .int x2, .int x3] (M, L, R, K) none (M', L, R, K) := by
  refine rm_rn rfl rfl (Nat.le_of_ble_eq_true rfl) ?_
  show Rn G mt_X0_better 0 [(0, .ref a0), (1, .int x1), (2, .int x2), (3, .int x3)] [] (M, L, R, K) none (M', L, R, K)
  unfold f_X0_better at h
  refine rn_iload_n (q := 1) 1 rfl zd_X0_better_0.1.1.1 ?_
  refine rn_aload_n (q := 0) 0 rfl zd_X0_better_0.1.1.2.1 ?_
  refine rn_getI zf_X0_18 (Or.inl rfl) k_a0 zd_X0_better_0.1.1.2.2 ?_
  rcases zif_e h with ⟨hc1, h⟩ | ⟨hc1, h⟩
  · refine rn_icmp_gt_t (tgt := 9) hc1 zd_X0_better_0.1.2.1.1 rfl ?_
    refine rn_aload_n (q := 0) 0 rfl zd_X0_better_0.1.2.2.1 ?_
    refine rn_iload_n (q := 1) 1 rfl zd_X0_better_0.1.2.2.2 ?_
    obtain ⟨M2, hM2, h⟩ := zlt_e h
    refine rn_putI hM2 zf_X0_18 k_a0 zd_X0_better_0.2.1.1.1 ?_
    refine rn_aload_n (q := 0) 0 rfl zd_X0_better_0.2.1.1.2 ?_
    refine rn_iload_n (q := 2) 2 rfl zd_X0_better_0.2.1.2.1 ?_
    obtain ⟨M3, hM3, h⟩ := zlt_e h
    refine rn_putI hM3 zf_X0_43 k_a0 zd_X0_better_0.2.1.2.2 ?_
    refine rn_aload_n (q := 0) 0 rfl zd_X0_better_0.2.2.1.1 ?_
    refine rn_iload_n (q := 3) 3 rfl zd_X0_better_0.2.2.1.2 ?_
    obtain ⟨M4, hM4, h⟩ := zlt_e h
    refine rn_putI hM4 zf_X0_46 k_a0 zd_X0_better_0.2.2.2.1 ?_
    cases h
    exact rn_vret zd_X0_better_0.2.2.2.2 rfl
  · refine rn_icmp_gt_f (tgt := 9) hc1 zd_X0_better_0.1.2.1.1 rfl ?_
    cases h
    exact rn_vret zd_X0_better_0.1.2.1.2 rfl
abbrev P_X0_findStart_8 (G : zG) (K : zK) (R : zR) (a0 : Nat) (a1 : Nat) (a2 : Nat) (x3 : Int32) (r : Option Value) (S' : zS) (v : Int32 × zM × zL) : Prop := Rn G mt_X0_findStart 8 [(0, .ref a0), (1, .ref a1), (2, .ref a2), (3, .int x3), (4, .int v.1)] [] (v.2.1, v.2.2, R, K) r S'
abbrev Q_X0_findStart_8 (G : zG) (K : zK) (R : zR) (a0 : Nat) (a1 : Nat) (a2 : Nat) (x3 : Int32) (r : Option Value) (S' : zS) : (zM × zL) → Prop := (fun e => Rn G mt_X0_findStart 56 [] [] (e.1, e.2, R, K) r S')
def nb_X0_findStart_8 (R : zR) (M : zM) (L : zL) (a0 : Nat) (a1 : Nat) (a2 : Nat) (x3 : Int32) (x4 : Int32) : Option ((Int32 × zM × zL) ⊕ ((zM × zL))) :=
  if (M a2 4) ≤ x4 then (
    some (.inr (M, L))
  ) else (
    zbd2 (n_X6_copy R M L (R a0 0) a2) fun M3 L4 =>
    zbd2 (n_X7_payByTurns R M3 L4 a1 (R a0 0) x4) fun M6 L7 =>
    zbd (f_X6_purseOf R M6 (R a0 0) x3) fun r9 =>
    zbd (f_X0_better M6 a0 r9 (0 : Int32) x4) fun M11 =>
    some (.inl ((x4 + 1), M11, L7))
  )
set_option maxRecDepth 4000 in
theorem ok_b_X0_findStart_8 {G : zG} {K : zK} {R : zR} {M : zM} {L : zL} (hW : zWT R K) {a0 : Nat} {a1 : Nat} {a2 : Nat} {x3 : Int32} {x4 : Int32} (k_a0 : K[a0]? = some (0, 4)) (k_a1 : K[a1]? = some (7, 11)) (k_a2 : K[a2]? = some (6, 8)) {r : Option Value} {S' : zS} {x : (Int32 × zM × zL) ⊕ ((zM × zL))} (h : nb_X0_findStart_8 R M L a0 a1 a2 x3 x4 = some x) (hk : Sum.elim (P_X0_findStart_8 G K R a0 a1 a2 x3 r S') (Q_X0_findStart_8 G K R a0 a1 a2 x3 r S') x) : P_X0_findStart_8 G K R a0 a1 a2 x3 r S' (x4, M, L) := by
  show Rn G mt_X0_findStart 8 [(0, .ref a0), (1, .ref a1), (2, .ref a2), (3, .int x3), (4, .int x4)] [] (M, L, R, K) r S'
  unfold nb_X0_findStart_8 at h
  refine rn_iload 4 rfl zd_X0_findStart_0.1.2.1.2 ?_
  refine rn_aload_n (q := 2) 2 rfl zd_X0_findStart_0.1.2.2.1 ?_
  refine rn_getI zf_X0_22 (Or.inl rfl) k_a2 zd_X0_findStart_0.1.2.2.2 ?_
  rcases zif_e h with ⟨hc2, h⟩ | ⟨hc2, h⟩
  · refine rn_icmp_ge_t (tgt := 56) hc2 zd_X0_findStart_0.2.1.1.1 rfl ?_
    cases h
    exact rn_sub (ls' := []) [] rfl hk
  · refine rn_icmp_ge_f (tgt := 56) hc2 zd_X0_findStart_0.2.1.1.1 rfl ?_
    refine rn_aload_n (q := 0) 0 rfl zd_X0_findStart_0.2.1.1.2 ?_
    refine rn_getR zf_X0_12 (Or.inl ⟨_, rfl⟩) k_a0 (zx_0_0 hW k_a0) zd_X0_findStart_0.2.1.2.1 ?_
    refine rn_aload_n (q := 2) 2 rfl zd_X0_findStart_0.2.1.2.2 ?_
    obtain ⟨M3, L4, h5, h⟩ := zbd2_e h
    refine rn_callVv (As := [.ref a2]) (rest := []) zl_X0_25 zm_X6_copy ⟨by decide, by decide⟩ (ci := 6) rfl rfl (by decide) (zw_0_0 hW k_a0) rfl rfl (Nat.le_of_ble_eq_true rfl) zd_X0_findStart_0.2.2.1.1 (ok_X6_copy hW (zw_0_0 hW k_a0) k_a2 h5) ?_
    refine rn_aload_n (q := 1) 1 rfl zd_X0_findStart_0.2.2.1.2 ?_
    refine rn_aload_n (q := 0) 0 rfl zd_X0_findStart_0.2.2.2.1 ?_
    refine rn_getR zf_X0_12 (Or.inl ⟨_, rfl⟩) k_a0 (zx_0_0 hW k_a0) zd_X0_findStart_0.2.2.2.2 ?_
    refine rn_iload 4 rfl zd_X0_findStart_1.1.1.1 ?_
    obtain ⟨M6, L7, h8, h⟩ := zbd2_e h
    refine rn_callVv (As := [.ref (R a0 0), .int x4]) (rest := []) zl_X0_29 zm_X7_payByTurns ⟨by decide, by decide⟩ (ci := 7) rfl rfl (by decide) k_a1 rfl rfl (Nat.le_of_ble_eq_true rfl) zd_X0_findStart_1.1.1.2.1 (ok_X7_payByTurns hW k_a1 (zw_0_0 hW k_a0) h8) ?_
    refine rn_aload_n (q := 0) 0 rfl zd_X0_findStart_1.1.1.2.2 ?_
    refine rn_aload_n (q := 0) 0 rfl zd_X0_findStart_1.1.2.1 ?_
    refine rn_getR zf_X0_12 (Or.inl ⟨_, rfl⟩) k_a0 (zx_0_0 hW k_a0) zd_X0_findStart_1.1.2.2.1 ?_
    refine rn_iload_n (q := 3) 3 rfl zd_X0_findStart_1.1.2.2.2 ?_
    obtain ⟨r9, h10, h⟩ := zbd_e h
    refine rn_callVi (As := [.int x3]) (rest := [.ref a0]) zl_X0_35 zm_X6_purseOf ⟨by decide, by decide⟩ (ci := 6) rfl rfl (by decide) (zw_0_0 hW k_a0) rfl rfl (Nat.le_of_ble_eq_true rfl) zd_X0_findStart_1.2.1.1 (ok_X6_purseOf hW (zw_0_0 hW k_a0) h10) ?_
    refine rn_iconst (v := 0) zd_X0_findStart_1.2.1.2.1 rfl ?_
    refine rn_iload 4 rfl zd_X0_findStart_1.2.1.2.2 ?_
    obtain ⟨M11, h12, h⟩ := zbd_e h
    refine rn_callVv (As := [.int r9, .int (0 : Int32), .int x4]) (rest := []) zl_X0_39 zm_X0_better ⟨by decide, by decide⟩ (ci := 0) rfl rfl (by decide) k_a0 rfl rfl (Nat.le_of_ble_eq_true rfl) zd_X0_findStart_1.2.2.1.1 (ok_X0_better hW k_a0 h12) ?_
    refine rn_iinc (v := (x4 + 1)) (ls' := [(4, .int (x4 + 1)), (0, .ref a0), (1, .ref a1), (2, .ref a2), (3, .int x3)]) 4 rfl rfl (by decide) rfl zd_X0_findStart_1.2.2.1.2 ?_
    refine rn_goto (tgt := 8) zd_X0_findStart_1.2.2.2.1 rfl ?_
    cases h
    exact rn_sub (ls' := [(0, .ref a0), (1, .ref a1), (2, .ref a2), (3, .int x3), (4, .int (x4 + 1))]) [1, 2, 3, 4, 0] rfl hk
def n_X0_findStart (R : zR) (M : zM) (L : zL) (a0 : Nat) (a1 : Nat) (a2 : Nat) (x3 : Int32) : Option (zM × zL) :=
  zlt (zup M a0 3 (-1 : Int32)) fun M1 =>
  zbd (zloop zN (fun v => nb_X0_findStart_8 R v.2.1 v.2.2 a0 a1 a2 x3 v.1) ((0 : Int32), M1, L)) fun e13 =>
  some (e13.1, e13.2)
set_option maxRecDepth 4000 in
theorem ok_X0_findStart {G : zG} {K : zK} {R : zR} {M : zM} {L : zL} (hW : zWT R K) {a0 : Nat} {a1 : Nat} {a2 : Nat} {x3 : Int32} (k_a0 : K[a0]? = some (0, 4)) (k_a1 : K[a1]? = some (7, 11)) (k_a2 : K[a2]? = some (6, 8)) {M' : zM} {L' : zL} (h : n_X0_findStart R M L a0 a1 a2 x3 = some (M', L')) : Rm G mt_X0_findStart [.ref a0, .ref a1, .ref a2, .int x3] (M, L, R, K) none (M', L', R, K) := by
  refine rm_rn rfl rfl (Nat.le_of_ble_eq_true rfl) ?_
  show Rn G mt_X0_findStart 0 [(0, .ref a0), (1, .ref a1), (2, .ref a2), (3, .int x3)] [] (M, L, R, K) none (M', L', R, K)
  unfold n_X0_findStart at h
  refine rn_aload_n (q := 0) 0 rfl zd_X0_findStart_0.1.1.1.1 ?_
  refine rn_iconst (v := -1) zd_X0_findStart_0.1.1.1.2 rfl ?_
  obtain ⟨M1, hM1, h⟩ := zlt_e h
  refine rn_putI hM1 zf_X0_18 k_a0 zd_X0_findStart_0.1.1.2.1 ?_
  refine rn_iconst (v := 0) zd_X0_findStart_0.1.1.2.2 rfl ?_
  refine rn_istore (ls' := [(4, .int (0 : Int32)), (0, .ref a0), (1, .ref a1), (2, .ref a2), (3, .int x3)]) (by decide) rfl zd_X0_findStart_0.1.2.1.1 ?_
  obtain ⟨e13, he13, h⟩ := zbd_e h
  refine rn_sub (ls' := [(0, .ref a0), (1, .ref a1), (2, .ref a2), (3, .int x3), (4, .int (0 : Int32))]) [1, 2, 3, 4, 0] rfl (zloop_ok (P := P_X0_findStart_8 G K R a0 a1 a2 x3 none (M', L', R, K)) (Q := Q_X0_findStart_8 G K R a0 a1 a2 x3 none (M', L', R, K)) (fun v x hx hq => ok_b_X0_findStart_8 hW k_a0 k_a1 k_a2 hx hq) _ _ _ he13 ?_)
  show Rn G mt_X0_findStart 56 [] [] (e13.1, e13.2, R, K) none (M', L', R, K)
  cases h
  exact rn_vret zd_X0_findStart_1.2.2.2.2 rfl
def n_X0_lessPaid (R : zR) (M : zM) (L : zL) (a0 : Nat) (a1 : Nat) (a2 : Nat) (x3 : Int32) (x4 : Int32) (x5 : Int32) : Option (Int32 × zM × zL) :=
  zbd2 (n_X6_copy R M L (R a0 0) a2) fun M1 L2 =>
  zbd2 (n_X7_evening R M1 L2 a1 (R a0 0) (M1 a1 8)) fun M4 L5 =>
  zbd (f_X6_paidBy R M4 (R a0 0) x4) fun r7 =>
  zbd2 (n_X6_copy R M4 L5 (R a0 0) a2) fun M9 L10 =>
  zbd (f_X6_earn R M9 (R a0 0) x3 (-x5)) fun M12 =>
  zbd2 (n_X7_evening R M12 L10 a1 (R a0 0) (M12 a1 8)) fun M14 L15 =>
  zbd (f_X6_paidBy R M14 (R a0 0) x4) fun r17 =>
  some ((r7 - r17), M14, L15)
set_option maxRecDepth 4000 in
theorem ok_X0_lessPaid {G : zG} {K : zK} {R : zR} {M : zM} {L : zL} (hW : zWT R K) {a0 : Nat} {a1 : Nat} {a2 : Nat} {x3 : Int32} {x4 : Int32} {x5 : Int32} (k_a0 : K[a0]? = some (0, 4)) (k_a1 : K[a1]? = some (7, 11)) (k_a2 : K[a2]? = some (6, 8)) {r' : Int32} {M' : zM} {L' : zL} (h : n_X0_lessPaid R M L a0 a1 a2 x3 x4 x5 = some (r', M', L')) : Rm G mt_X0_lessPaid [.ref a0, .ref a1, .ref a2, .int x3, .int x4, .int x5] (M, L, R, K) (some (.int r')) (M', L', R, K) := by
  refine rm_rn rfl rfl (Nat.le_of_ble_eq_true rfl) ?_
  show Rn G mt_X0_lessPaid 0 [(0, .ref a0), (1, .ref a1), (2, .ref a2), (3, .int x3), (4, .int x4), (5, .int x5)] [] (M, L, R, K) (some (.int r')) (M', L', R, K)
  unfold n_X0_lessPaid at h
  refine rn_aload_n (q := 0) 0 rfl zd_X0_lessPaid_0.1.1.1.1 ?_
  refine rn_getR zf_X0_12 (Or.inl ⟨_, rfl⟩) k_a0 (zx_0_0 hW k_a0) zd_X0_lessPaid_0.1.1.1.2 ?_
  refine rn_aload_n (q := 2) 2 rfl zd_X0_lessPaid_0.1.1.2.1 ?_
  obtain ⟨M1, L2, h3, h⟩ := zbd2_e h
  refine rn_callVv (As := [.ref a2]) (rest := []) zl_X0_25 zm_X6_copy ⟨by decide, by decide⟩ (ci := 6) rfl rfl (by decide) (zw_0_0 hW k_a0) rfl rfl (Nat.le_of_ble_eq_true rfl) zd_X0_lessPaid_0.1.1.2.2 (ok_X6_copy hW (zw_0_0 hW k_a0) k_a2 h3) ?_
  refine rn_aload_n (q := 1) 1 rfl zd_X0_lessPaid_0.1.2.1.1 ?_
  refine rn_aload_n (q := 0) 0 rfl zd_X0_lessPaid_0.1.2.1.2 ?_
  refine rn_getR zf_X0_12 (Or.inl ⟨_, rfl⟩) k_a0 (zx_0_0 hW k_a0) zd_X0_lessPaid_0.1.2.2.1 ?_
  refine rn_aload_n (q := 1) 1 rfl zd_X0_lessPaid_0.1.2.2.2 ?_
  refine rn_getI zf_X0_49 (Or.inl rfl) k_a1 zd_X0_lessPaid_0.2.1.1.1 ?_
  obtain ⟨M4, L5, h6, h⟩ := zbd2_e h
  refine rn_callVv (As := [.ref (R a0 0), .int (M1 a1 8)]) (rest := []) zl_X0_52 zm_X7_evening ⟨by decide, by decide⟩ (ci := 7) rfl rfl (by decide) k_a1 rfl rfl (Nat.le_of_ble_eq_true rfl) zd_X0_lessPaid_0.2.1.1.2 (ok_X7_evening hW k_a1 (zw_0_0 hW k_a0) h6) ?_
  refine rn_aload_n (q := 0) 0 rfl zd_X0_lessPaid_0.2.1.2.1 ?_
  refine rn_getR zf_X0_12 (Or.inl ⟨_, rfl⟩) k_a0 (zx_0_0 hW k_a0) zd_X0_lessPaid_0.2.1.2.2 ?_
  refine rn_iload 4 rfl zd_X0_lessPaid_0.2.2.1.1 ?_
  obtain ⟨r7, h8, h⟩ := zbd_e h
  refine rn_callVi (As := [.int x4]) (rest := []) zl_X0_55 zm_X6_paidBy ⟨by decide, by decide⟩ (ci := 6) rfl rfl (by decide) (zw_0_0 hW k_a0) rfl rfl (Nat.le_of_ble_eq_true rfl) zd_X0_lessPaid_0.2.2.1.2 (ok_X6_paidBy hW (zw_0_0 hW k_a0) h8) ?_
  refine rn_istore (ls' := [(6, .int r7), (0, .ref a0), (1, .ref a1), (2, .ref a2), (3, .int x3), (4, .int x4), (5, .int x5)]) (by decide) rfl zd_X0_lessPaid_0.2.2.2.1 ?_
  refine rn_aload_n (q := 0) 1 rfl zd_X0_lessPaid_0.2.2.2.2 ?_
  refine rn_getR zf_X0_12 (Or.inl ⟨_, rfl⟩) k_a0 (zx_0_0 hW k_a0) zd_X0_lessPaid_1.1.1.1.1 ?_
  refine rn_aload_n (q := 2) 3 rfl zd_X0_lessPaid_1.1.1.1.2 ?_
  obtain ⟨M9, L10, h11, h⟩ := zbd2_e h
  refine rn_callVv (As := [.ref a2]) (rest := []) zl_X0_25 zm_X6_copy ⟨by decide, by decide⟩ (ci := 6) rfl rfl (by decide) (zw_0_0 hW k_a0) rfl rfl (Nat.le_of_ble_eq_true rfl) zd_X0_lessPaid_1.1.1.2.1 (ok_X6_copy hW (zw_0_0 hW k_a0) k_a2 h11) ?_
  refine rn_aload_n (q := 0) 1 rfl zd_X0_lessPaid_1.1.1.2.2 ?_
  refine rn_getR zf_X0_12 (Or.inl ⟨_, rfl⟩) k_a0 (zx_0_0 hW k_a0) zd_X0_lessPaid_1.1.2.1.1 ?_
  refine rn_iload_n (q := 3) 4 rfl zd_X0_lessPaid_1.1.2.1.2 ?_
  refine rn_iload 6 rfl zd_X0_lessPaid_1.1.2.2.1 ?_
  refine rn_ineg zd_X0_lessPaid_1.1.2.2.2 ?_
  obtain ⟨M12, h13, h⟩ := zbd_e h
  refine rn_callVv (As := [.int x3, .int (-x5)]) (rest := []) zl_X0_58 zm_X6_earn ⟨by decide, by decide⟩ (ci := 6) rfl rfl (by decide) (zw_0_0 hW k_a0) rfl rfl (Nat.le_of_ble_eq_true rfl) zd_X0_lessPaid_1.2.1.1.1 (ok_X6_earn hW (zw_0_0 hW k_a0) h13) ?_
  refine rn_aload_n (q := 1) 2 rfl zd_X0_lessPaid_1.2.1.1.2 ?_
  refine rn_aload_n (q := 0) 1 rfl zd_X0_lessPaid_1.2.1.2.1 ?_
  refine rn_getR zf_X0_12 (Or.inl ⟨_, rfl⟩) k_a0 (zx_0_0 hW k_a0) zd_X0_lessPaid_1.2.1.2.2 ?_
  refine rn_aload_n (q := 1) 2 rfl zd_X0_lessPaid_1.2.2.1.1 ?_
  refine rn_getI zf_X0_49 (Or.inl rfl) k_a1 zd_X0_lessPaid_1.2.2.1.2 ?_
  obtain ⟨M14, L15, h16, h⟩ := zbd2_e h
  refine rn_callVv (As := [.ref (R a0 0), .int (M12 a1 8)]) (rest := []) zl_X0_52 zm_X7_evening ⟨by decide, by decide⟩ (ci := 7) rfl rfl (by decide) k_a1 rfl rfl (Nat.le_of_ble_eq_true rfl) zd_X0_lessPaid_1.2.2.2.1 (ok_X7_evening hW k_a1 (zw_0_0 hW k_a0) h16) ?_
  refine rn_iload 0 rfl zd_X0_lessPaid_1.2.2.2.2 ?_
  refine rn_aload_n (q := 0) 1 rfl zd_X0_lessPaid_2.1.1 ?_
  refine rn_getR zf_X0_12 (Or.inl ⟨_, rfl⟩) k_a0 (zx_0_0 hW k_a0) zd_X0_lessPaid_2.1.2.1 ?_
  refine rn_iload 5 rfl zd_X0_lessPaid_2.1.2.2 ?_
  obtain ⟨r17, h18, h⟩ := zbd_e h
  refine rn_callVi (As := [.int x4]) (rest := [.int r7]) zl_X0_55 zm_X6_paidBy ⟨by decide, by decide⟩ (ci := 6) rfl rfl (by decide) (zw_0_0 hW k_a0) rfl rfl (Nat.le_of_ble_eq_true rfl) zd_X0_lessPaid_2.2.1 (ok_X6_paidBy hW (zw_0_0 hW k_a0) h18) ?_
  refine rn_isub zd_X0_lessPaid_2.2.2.1 ?_
  cases h
  exact rn_iret zd_X0_lessPaid_2.2.2.2 rfl
def j_X0_isFreeBy_28 (R : zR) (M : zM) (a0 : Nat) (x2 : Int32) (x3 : Int32) (x4 : Int32) (s0 : Int32) : Option (Int32 × zM) :=
  zbd (f_X6_move R M (R a0 0) x3 x2 x4) fun M7 =>
  zck (zbool s0) <|
  some (s0, M7)
set_option maxRecDepth 4000 in
theorem ok_j_X0_isFreeBy_28 {G : zG} {K : zK} {R : zR} {M : zM} {L : zL} (hW : zWT R K) {a0 : Nat} {x2 : Int32} {x3 : Int32} {x4 : Int32} {s0 : Int32} (k_a0 : K[a0]? = some (0, 4)) {r' : Int32} {M' : zM} (h : j_X0_isFreeBy_28 R M a0 x2 x3 x4 s0 = some (r', M')) : Rn G mt_X0_isFreeBy 28 [(0, .ref a0), (2, .int x2), (3, .int x3), (4, .int x4)] [.int s0] (M, L, R, K) (some (.int r')) (M', L, R, K) := by
  unfold j_X0_isFreeBy_28 at h
  refine rn_istore (ls' := [(5, .int s0), (0, .ref a0), (2, .int x2), (3, .int x3), (4, .int x4)]) (by decide) rfl zd_X0_isFreeBy_0.2.2.2.2 ?_
  refine rn_aload_n (q := 0) 1 rfl zd_X0_isFreeBy_1.1.1.1 ?_
  refine rn_getR zf_X0_12 (Or.inl ⟨_, rfl⟩) k_a0 (zx_0_0 hW k_a0) zd_X0_isFreeBy_1.1.1.2 ?_
  refine rn_iload_n (q := 3) 3 rfl zd_X0_isFreeBy_1.1.2.1 ?_
  refine rn_iload_n (q := 2) 2 rfl zd_X0_isFreeBy_1.1.2.2 ?_
  refine rn_iload 4 rfl zd_X0_isFreeBy_1.2.1.1 ?_
  obtain ⟨M7, h8, h⟩ := zbd_e h
  refine rn_callVv (As := [.int x3, .int x2, .int x4]) (rest := []) zl_X0_79 zm_X6_move ⟨by decide, by decide⟩ (ci := 6) rfl rfl (by decide) (zw_0_0 hW k_a0) rfl rfl (Nat.le_of_ble_eq_true rfl) zd_X0_isFreeBy_1.2.1.2 (ok_X6_move hW (zw_0_0 hW k_a0) h8) ?_
  refine rn_iload 0 rfl zd_X0_isFreeBy_1.2.2.1 ?_
  obtain ⟨hc9, h⟩ := zck_e h
  cases h
  exact rn_zret zd_X0_isFreeBy_1.2.2.2 rfl (zbool_n hc9)
def f_X0_isFreeBy (R : zR) (M : zM) (a0 : Nat) (a1 : Nat) (x2 : Int32) (x3 : Int32) (x4 : Int32) : Option (Int32 × zM) :=
  zbd (f_X6_move R M (R a0 0) x2 x3 x4) fun M1 =>
  zbd2 (f_X7_wanted R M1 a1 (R a0 0) x2) fun r3 M4 =>
  if r3 = 0 then (
    j_X0_isFreeBy_28 R M4 a0 x2 x3 x4 (1 : Int32)
  ) else (
    j_X0_isFreeBy_28 R M4 a0 x2 x3 x4 (0 : Int32)
  )
set_option maxRecDepth 4000 in
theorem ok_X0_isFreeBy {G : zG} {K : zK} {R : zR} {M : zM} {L : zL} (hW : zWT R K) {a0 : Nat} {a1 : Nat} {x2 : Int32} {x3 : Int32} {x4 : Int32} (k_a0 : K[a0]? = some (0, 4)) (k_a1 : K[a1]? = some (7, 11)) {r' : Int32} {M' : zM} (h : f_X0_isFreeBy R M a0 a1 x2 x3 x4 = some (r', M')) : Rm G mt_X0_isFreeBy [.ref a0, .ref a1, .int x2, .int x3, .int x4] (M, L, R, K) (some (.int r')) (M', L, R, K) := by
  refine rm_rn rfl rfl (Nat.le_of_ble_eq_true rfl) ?_
  show Rn G mt_X0_isFreeBy 0 [(0, .ref a0), (1, .ref a1), (2, .int x2), (3, .int x3), (4, .int x4)] [] (M, L, R, K) (some (.int r')) (M', L, R, K)
  unfold f_X0_isFreeBy at h
  refine rn_aload_n (q := 0) 0 rfl zd_X0_isFreeBy_0.1.1.1.1 ?_
  refine rn_getR zf_X0_12 (Or.inl ⟨_, rfl⟩) k_a0 (zx_0_0 hW k_a0) zd_X0_isFreeBy_0.1.1.1.2 ?_
  refine rn_iload_n (q := 2) 2 rfl zd_X0_isFreeBy_0.1.1.2.1 ?_
  refine rn_iload_n (q := 3) 3 rfl zd_X0_isFreeBy_0.1.1.2.2 ?_
  refine rn_iload 4 rfl zd_X0_isFreeBy_0.1.2.1.1 ?_
  obtain ⟨M1, h2, h⟩ := zbd_e h
  refine rn_callVv (As := [.int x2, .int x3, .int x4]) (rest := []) zl_X0_79 zm_X6_move ⟨by decide, by decide⟩ (ci := 6) rfl rfl (by decide) (zw_0_0 hW k_a0) rfl rfl (Nat.le_of_ble_eq_true rfl) zd_X0_isFreeBy_0.1.2.1.2 (ok_X6_move hW (zw_0_0 hW k_a0) h2) ?_
  refine rn_aload_n (q := 1) 1 rfl zd_X0_isFreeBy_0.1.2.2.1 ?_
  refine rn_aload_n (q := 0) 0 rfl zd_X0_isFreeBy_0.1.2.2.2 ?_
  refine rn_getR zf_X0_12 (Or.inl ⟨_, rfl⟩) k_a0 (zx_0_0 hW k_a0) zd_X0_isFreeBy_0.2.1.1.1 ?_
  refine rn_iload_n (q := 2) 2 rfl zd_X0_isFreeBy_0.2.1.1.2 ?_
  obtain ⟨r3, M4, h5, h⟩ := zbd2_e h
  refine rn_callVi (As := [.ref (R a0 0), .int x2]) (rest := []) zl_X0_62 zm_X7_wanted ⟨by decide, by decide⟩ (ci := 7) rfl rfl (by decide) k_a1 rfl rfl (Nat.le_of_ble_eq_true rfl) zd_X0_isFreeBy_0.2.1.2.1 (ok_X7_wanted hW k_a1 (zw_0_0 hW k_a0) h5) ?_
  rcases zif_e h with ⟨hc6, h⟩ | ⟨hc6, h⟩
  · refine rn_if_ne_f (tgt := 27) hc6 zd_X0_isFreeBy_0.2.1.2.2 rfl ?_
    refine rn_iconst (v := 1) zd_X0_isFreeBy_0.2.2.1.1 rfl ?_
    refine rn_goto (tgt := 28) zd_X0_isFreeBy_0.2.2.1.2 rfl ?_
    exact rn_sub (ls' := [(0, .ref a0), (2, .int x2), (3, .int x3), (4, .int x4)]) [0, 2, 3, 4] rfl (ok_j_X0_isFreeBy_28 hW k_a0 h)
  · refine rn_if_ne_t (tgt := 27) hc6 zd_X0_isFreeBy_0.2.1.2.2 rfl ?_
    refine rn_iconst (v := 0) zd_X0_isFreeBy_0.2.2.2.1 rfl ?_
    exact rn_sub (ls' := [(0, .ref a0), (2, .int x2), (3, .int x3), (4, .int x4)]) [0, 2, 3, 4] rfl (ok_j_X0_isFreeBy_28 hW k_a0 h)
abbrev P_X0_findLeastGift_48 (G : zG) (K : zK) (R : zR) (L : zL) (a0 : Nat) (a1 : Nat) (a2 : Nat) (x3 : Int32) (x4 : Int32) (r : Option Value) (S' : zS) (v : Int32 × zM) : Prop := Rn G mt_X0_findLeastGift 48 [(0, .ref a0), (1, .ref a1), (2, .ref a2), (3, .int x3), (4, .int x4), (5, .int v.1)] [] (v.2, L, R, K) r S'
abbrev Q_X0_findLeastGift_48 (G : zG) (K : zK) (R : zR) (L : zL) (a0 : Nat) (a1 : Nat) (a2 : Nat) (x3 : Int32) (x4 : Int32) (r : Option Value) (S' : zS) : (Int32 × Int32 × zM) ⊕ (zM) → Prop := (Sum.elim (fun e => Rn G mt_X0_findLeastGift 86 [(0, .ref a0), (5, .int e.1), (6, .int e.2.1)] [] (e.2.2, L, R, K) r S') (fun e => Rn G mt_X0_findLeastGift 111 [(0, .ref a0)] [] (e, L, R, K) r S'))
abbrev P_X0_findLeastGift_58 (G : zG) (K : zK) (R : zR) (L : zL) (a0 : Nat) (a1 : Nat) (a2 : Nat) (x3 : Int32) (x4 : Int32) (x5 : Int32) (r : Option Value) (S' : zS) (v : Int32 × zM) : Prop := Rn G mt_X0_findLeastGift 58 [(0, .ref a0), (1, .ref a1), (2, .ref a2), (3, .int x3), (4, .int x4), (5, .int x5), (6, .int v.1)] [] (v.2, L, R, K) r S'
abbrev Q_X0_findLeastGift_58 (G : zG) (K : zK) (R : zR) (L : zL) (a0 : Nat) (a1 : Nat) (a2 : Nat) (x3 : Int32) (x4 : Int32) (x5 : Int32) (r : Option Value) (S' : zS) : (Int32 × zM) ⊕ (zM) → Prop := (Sum.elim (fun e => Rn G mt_X0_findLeastGift 86 [(0, .ref a0), (5, .int x5), (6, .int e.1)] [] (e.2, L, R, K) r S') (fun e => Rn G mt_X0_findLeastGift 105 [(0, .ref a0), (1, .ref a1), (2, .ref a2), (3, .int x3), (4, .int x4), (5, .int x5)] [] (e, L, R, K) r S'))
def nb_X0_findLeastGift_58 (R : zR) (M : zM) (L : zL) (a0 : Nat) (a1 : Nat) (a2 : Nat) (x3 : Int32) (x4 : Int32) (x5 : Int32) (x6 : Int32) : Option ((Int32 × zM) ⊕ ((Int32 × zM) ⊕ (zM))) :=
  if (M a2 4) ≤ x6 then (
    some (.inr (.inr M))
  ) else (
    if x6 = x3 then (
      some (.inl ((x6 + 1), M))
    ) else (
      zbd2 (f_X0_isFreeBy R M a0 a1 x3 x6 x5) fun r15 M16 =>
      if r15 = 0 then (
        some (.inl ((x6 + 1), M16))
      ) else (
        some (.inr (.inl (x6, M16)))
      )
    )
  )
set_option maxRecDepth 4000 in
theorem ok_b_X0_findLeastGift_58 {G : zG} {K : zK} {R : zR} {M : zM} {L : zL} (hW : zWT R K) {a0 : Nat} {a1 : Nat} {a2 : Nat} {x3 : Int32} {x4 : Int32} {x5 : Int32} {x6 : Int32} (k_a0 : K[a0]? = some (0, 4)) (k_a1 : K[a1]? = some (7, 11)) (k_a2 : K[a2]? = some (6, 8)) {r : Option Value} {S' : zS} {x : (Int32 × zM) ⊕ ((Int32 × zM) ⊕ (zM))} (h : nb_X0_findLeastGift_58 R M L a0 a1 a2 x3 x4 x5 x6 = some x) (hk : Sum.elim (P_X0_findLeastGift_58 G K R L a0 a1 a2 x3 x4 x5 r S') (Q_X0_findLeastGift_58 G K R L a0 a1 a2 x3 x4 x5 r S') x) : P_X0_findLeastGift_58 G K R L a0 a1 a2 x3 x4 x5 r S' (x6, M) := by
  show Rn G mt_X0_findLeastGift 58 [(0, .ref a0), (1, .ref a1), (2, .ref a2), (3, .int x3), (4, .int x4), (5, .int x5), (6, .int x6)] [] (M, L, R, K) r S'
  unfold nb_X0_findLeastGift_58 at h
  refine rn_iload 6 rfl zd_X0_findLeastGift_1.2.2.2.1 ?_
  refine rn_aload_n (q := 2) 2 rfl zd_X0_findLeastGift_1.2.2.2.2 ?_
  refine rn_getI zf_X0_22 (Or.inl rfl) k_a2 zd_X0_findLeastGift_2.1.1.1.1 ?_
  rcases zif_e h with ⟨hc13, h⟩ | ⟨hc13, h⟩
  · refine rn_icmp_ge_t (tgt := 105) hc13 zd_X0_findLeastGift_2.1.1.1.2 rfl ?_
    cases h
    exact rn_sub (ls' := [(0, .ref a0), (1, .ref a1), (2, .ref a2), (3, .int x3), (4, .int x4), (5, .int x5)]) [0, 1, 2, 3, 4, 5] rfl hk
  · refine rn_icmp_ge_f (tgt := 105) hc13 zd_X0_findLeastGift_2.1.1.1.2 rfl ?_
    refine rn_iload 6 rfl zd_X0_findLeastGift_2.1.1.2.1 ?_
    refine rn_iload_n (q := 3) 3 rfl zd_X0_findLeastGift_2.1.1.2.2 ?_
    rcases zif_e h with ⟨hc14, h⟩ | ⟨hc14, h⟩
    · refine rn_icmp_eq_t (tgt := 99) hc14 zd_X0_findLeastGift_2.1.2.1.1 rfl ?_
      refine rn_iinc (v := (x6 + 1)) (ls' := [(6, .int (x6 + 1)), (0, .ref a0), (1, .ref a1), (2, .ref a2), (3, .int x3), (4, .int x4), (5, .int x5)]) 6 rfl rfl (by decide) rfl zd_X0_findLeastGift_3.1.2.2.1 ?_
      refine rn_goto (tgt := 58) zd_X0_findLeastGift_3.1.2.2.2 rfl ?_
      cases h
      exact rn_sub (ls' := [(0, .ref a0), (1, .ref a1), (2, .ref a2), (3, .int x3), (4, .int x4), (5, .int x5), (6, .int (x6 + 1))]) [1, 2, 3, 4, 5, 6, 0] rfl hk
    · refine rn_icmp_eq_f (tgt := 99) hc14 zd_X0_findLeastGift_2.1.2.1.1 rfl ?_
      refine rn_aload_n (q := 0) 0 rfl zd_X0_findLeastGift_2.1.2.1.2 ?_
      refine rn_aload_n (q := 1) 1 rfl zd_X0_findLeastGift_2.1.2.2.1 ?_
      refine rn_iload_n (q := 3) 3 rfl zd_X0_findLeastGift_2.1.2.2.2 ?_
      refine rn_iload 6 rfl zd_X0_findLeastGift_2.2.1.1.1 ?_
      refine rn_iload 5 rfl zd_X0_findLeastGift_2.2.1.1.2 ?_
      obtain ⟨r15, M16, h17, h⟩ := zbd2_e h
      refine rn_callVi (As := [.ref a1, .int x3, .int x6, .int x5]) (rest := []) zl_X0_75 zm_X0_isFreeBy ⟨by decide, by decide⟩ (ci := 0) rfl rfl (by decide) k_a0 rfl rfl (Nat.le_of_ble_eq_true rfl) zd_X0_findLeastGift_2.2.1.2.1 (ok_X0_isFreeBy hW k_a0 k_a1 h17) ?_
      rcases zif_e h with ⟨hc18, h⟩ | ⟨hc18, h⟩
      · refine rn_if_eq_t (tgt := 99) hc18 zd_X0_findLeastGift_2.2.1.2.2 rfl ?_
        refine rn_iinc (v := (x6 + 1)) (ls' := [(6, .int (x6 + 1)), (0, .ref a0), (1, .ref a1), (2, .ref a2), (3, .int x3), (4, .int x4), (5, .int x5)]) 6 rfl rfl (by decide) rfl zd_X0_findLeastGift_3.1.2.2.1 ?_
        refine rn_goto (tgt := 58) zd_X0_findLeastGift_3.1.2.2.2 rfl ?_
        cases h
        exact rn_sub (ls' := [(0, .ref a0), (1, .ref a1), (2, .ref a2), (3, .int x3), (4, .int x4), (5, .int x5), (6, .int (x6 + 1))]) [1, 2, 3, 4, 5, 6, 0] rfl hk
      · refine rn_if_eq_f (tgt := 99) hc18 zd_X0_findLeastGift_2.2.1.2.2 rfl ?_
        cases h
        exact rn_sub (ls' := [(0, .ref a0), (5, .int x5), (6, .int x6)]) [0, 5, 6] rfl hk
def nb_X0_findLeastGift_48 (R : zR) (M : zM) (L : zL) (a0 : Nat) (a1 : Nat) (a2 : Nat) (x3 : Int32) (x4 : Int32) (x5 : Int32) : Option ((Int32 × zM) ⊕ ((Int32 × Int32 × zM) ⊕ (zM))) :=
  if x4 < x5 then (
    some (.inr (.inr M))
  ) else (
    zbd (zloop zN (fun v => nb_X0_findLeastGift_58 R v.2 L a0 a1 a2 x3 x4 x5 v.1) ((0 : Int32), M)) fun e19 =>
    Sum.elim (fun e20 =>
      some (.inr (.inl (x5, e20.1, e20.2)))
    ) (fun e21 =>
      some (.inl ((x5 + 1), e21))
    ) e19
  )
set_option maxRecDepth 4000 in
theorem ok_b_X0_findLeastGift_48 {G : zG} {K : zK} {R : zR} {M : zM} {L : zL} (hW : zWT R K) {a0 : Nat} {a1 : Nat} {a2 : Nat} {x3 : Int32} {x4 : Int32} {x5 : Int32} (k_a0 : K[a0]? = some (0, 4)) (k_a1 : K[a1]? = some (7, 11)) (k_a2 : K[a2]? = some (6, 8)) {r : Option Value} {S' : zS} {x : (Int32 × zM) ⊕ ((Int32 × Int32 × zM) ⊕ (zM))} (h : nb_X0_findLeastGift_48 R M L a0 a1 a2 x3 x4 x5 = some x) (hk : Sum.elim (P_X0_findLeastGift_48 G K R L a0 a1 a2 x3 x4 r S') (Q_X0_findLeastGift_48 G K R L a0 a1 a2 x3 x4 r S') x) : P_X0_findLeastGift_48 G K R L a0 a1 a2 x3 x4 r S' (x5, M) := by
  show Rn G mt_X0_findLeastGift 48 [(0, .ref a0), (1, .ref a1), (2, .ref a2), (3, .int x3), (4, .int x4), (5, .int x5)] [] (M, L, R, K) r S'
  unfold nb_X0_findLeastGift_48 at h
  refine rn_iload 5 rfl zd_X0_findLeastGift_1.2.1.1.2 ?_
  refine rn_iload 4 rfl zd_X0_findLeastGift_1.2.1.2.1 ?_
  rcases zif_e h with ⟨hc12, h⟩ | ⟨hc12, h⟩
  · refine rn_icmp_gt_t (tgt := 111) hc12 zd_X0_findLeastGift_1.2.1.2.2 rfl ?_
    cases h
    exact rn_sub (ls' := [(0, .ref a0)]) [0] rfl hk
  · refine rn_icmp_gt_f (tgt := 111) hc12 zd_X0_findLeastGift_1.2.1.2.2 rfl ?_
    refine rn_iconst (v := 0) zd_X0_findLeastGift_1.2.2.1.1 rfl ?_
    refine rn_istore (ls' := [(6, .int (0 : Int32)), (0, .ref a0), (1, .ref a1), (2, .ref a2), (3, .int x3), (4, .int x4), (5, .int x5)]) (by decide) rfl zd_X0_findLeastGift_1.2.2.1.2 ?_
    obtain ⟨e19, he19, h⟩ := zbd_e h
    refine rn_sub (ls' := [(0, .ref a0), (1, .ref a1), (2, .ref a2), (3, .int x3), (4, .int x4), (5, .int x5), (6, .int (0 : Int32))]) [1, 2, 3, 4, 5, 6, 0] rfl (zloop_ok (P := P_X0_findLeastGift_58 G K R L a0 a1 a2 x3 x4 x5 r S') (Q := Q_X0_findLeastGift_58 G K R L a0 a1 a2 x3 x4 x5 r S') (fun v x hx hq => ok_b_X0_findLeastGift_58 hW k_a0 k_a1 k_a2 hx hq) _ _ _ he19 ?_)
    rcases e19 with e20 | e21
    · rw [Sum.elim_inl] at h
      show Rn G mt_X0_findLeastGift 86 [(0, .ref a0), (5, .int x5), (6, .int e20.1)] [] (e20.2, L, R, K) r S'
      cases h
      exact rn_sub (ls' := [(0, .ref a0), (5, .int x5), (6, .int e20.1)]) [0, 1, 2] rfl hk
    · rw [Sum.elim_inr] at h
      show Rn G mt_X0_findLeastGift 105 [(0, .ref a0), (1, .ref a1), (2, .ref a2), (3, .int x3), (4, .int x4), (5, .int x5)] [] (e21, L, R, K) r S'
      refine rn_iinc (v := (x5 + 1)) (ls' := [(5, .int (x5 + 1)), (0, .ref a0), (1, .ref a1), (2, .ref a2), (3, .int x3), (4, .int x4)]) 5 rfl rfl (by decide) rfl zd_X0_findLeastGift_3.2.1.1 ?_
      refine rn_goto (tgt := 48) zd_X0_findLeastGift_3.2.1.2.1 rfl ?_
      cases h
      exact rn_sub (ls' := [(0, .ref a0), (1, .ref a1), (2, .ref a2), (3, .int x3), (4, .int x4), (5, .int (x5 + 1))]) [1, 2, 3, 4, 5, 0] rfl hk
def n_X0_findLeastGift (R : zR) (M : zM) (L : zL) (a0 : Nat) (a1 : Nat) (a2 : Nat) (x3 : Int32) : Option (zM × zL) :=
  zlt (zup M a0 1 (0 : Int32)) fun M1 =>
  zlt (zup M1 a0 2 (-2 : Int32)) fun M2 =>
  zbd2 (n_X6_copy R M2 L (R a0 0) a2) fun M3 L4 =>
  zbd2 (f_X7_wanted R M3 a1 (R a0 0) x3) fun r6 M7 =>
  if r6 = 0 then (
    some (M7, L4)
  ) else (
    zbd (f_X6_shown R M7 a2 x3) fun r10 =>
    zbd (zloop zN (fun v => nb_X0_findLeastGift_48 R v.2 L4 a0 a1 a2 x3 (if (2000 : Int32) < r10 then (2000 : Int32) else r10) v.1) ((1 : Int32), M7)) fun e22 =>
    Sum.elim (fun e23 =>
      zlt (zup e23.2.2 a0 1 e23.1) fun M25 =>
      zlt (zup M25 a0 2 e23.2.1) fun M26 =>
      some (M26, L4)
    ) (fun e24 =>
      zlt (zup e24 a0 1 (-2 : Int32)) fun M27 =>
      some (M27, L4)
    ) e22
  )
set_option maxRecDepth 4000 in
theorem ok_X0_findLeastGift {G : zG} {K : zK} {R : zR} {M : zM} {L : zL} (hW : zWT R K) {a0 : Nat} {a1 : Nat} {a2 : Nat} {x3 : Int32} (k_a0 : K[a0]? = some (0, 4)) (k_a1 : K[a1]? = some (7, 11)) (k_a2 : K[a2]? = some (6, 8)) {M' : zM} {L' : zL} (h : n_X0_findLeastGift R M L a0 a1 a2 x3 = some (M', L')) : Rm G mt_X0_findLeastGift [.ref a0, .ref a1, .ref a2, .int x3] (M, L, R, K) none (M', L', R, K) := by
  refine rm_rn rfl rfl (Nat.le_of_ble_eq_true rfl) ?_
  show Rn G mt_X0_findLeastGift 0 [(0, .ref a0), (1, .ref a1), (2, .ref a2), (3, .int x3)] [] (M, L, R, K) none (M', L', R, K)
  unfold n_X0_findLeastGift at h
  refine rn_aload_n (q := 0) 0 rfl zd_X0_findLeastGift_0.1.1.1.1 ?_
  refine rn_iconst (v := 0) zd_X0_findLeastGift_0.1.1.1.2 rfl ?_
  obtain ⟨M1, hM1, h⟩ := zlt_e h
  refine rn_putI hM1 zf_X0_43 k_a0 zd_X0_findLeastGift_0.1.1.2.1 ?_
  refine rn_aload_n (q := 0) 0 rfl zd_X0_findLeastGift_0.1.1.2.2 ?_
  refine rn_bipush (v := -2) zd_X0_findLeastGift_0.1.2.1.1 rfl ?_
  obtain ⟨M2, hM2, h⟩ := zlt_e h
  refine rn_putI hM2 zf_X0_46 k_a0 zd_X0_findLeastGift_0.1.2.1.2 ?_
  refine rn_aload_n (q := 0) 0 rfl zd_X0_findLeastGift_0.1.2.2.1 ?_
  refine rn_getR zf_X0_12 (Or.inl ⟨_, rfl⟩) k_a0 (zx_0_0 hW k_a0) zd_X0_findLeastGift_0.1.2.2.2 ?_
  refine rn_aload_n (q := 2) 2 rfl zd_X0_findLeastGift_0.2.1.1.1 ?_
  obtain ⟨M3, L4, h5, h⟩ := zbd2_e h
  refine rn_callVv (As := [.ref a2]) (rest := []) zl_X0_25 zm_X6_copy ⟨by decide, by decide⟩ (ci := 6) rfl rfl (by decide) (zw_0_0 hW k_a0) rfl rfl (Nat.le_of_ble_eq_true rfl) zd_X0_findLeastGift_0.2.1.1.2 (ok_X6_copy hW (zw_0_0 hW k_a0) k_a2 h5) ?_
  refine rn_aload_n (q := 1) 1 rfl zd_X0_findLeastGift_0.2.1.2.1 ?_
  refine rn_aload_n (q := 0) 0 rfl zd_X0_findLeastGift_0.2.1.2.2 ?_
  refine rn_getR zf_X0_12 (Or.inl ⟨_, rfl⟩) k_a0 (zx_0_0 hW k_a0) zd_X0_findLeastGift_0.2.2.1.1 ?_
  refine rn_iload_n (q := 3) 3 rfl zd_X0_findLeastGift_0.2.2.1.2 ?_
  obtain ⟨r6, M7, h8, h⟩ := zbd2_e h
  refine rn_callVi (As := [.ref (R a0 0), .int x3]) (rest := []) zl_X0_62 zm_X7_wanted ⟨by decide, by decide⟩ (ci := 7) rfl rfl (by decide) k_a1 rfl rfl (Nat.le_of_ble_eq_true rfl) zd_X0_findLeastGift_0.2.2.2.1 (ok_X7_wanted hW k_a1 (zw_0_0 hW k_a0) h8) ?_
  rcases zif_e h with ⟨hc9, h⟩ | ⟨hc9, h⟩
  · refine rn_if_ne_f (tgt := 32) hc9 zd_X0_findLeastGift_0.2.2.2.2 rfl ?_
    cases h
    exact rn_vret zd_X0_findLeastGift_1.1.1.1.1 rfl
  · refine rn_if_ne_t (tgt := 32) hc9 zd_X0_findLeastGift_0.2.2.2.2 rfl ?_
    refine rn_aload_n (q := 2) 2 rfl zd_X0_findLeastGift_1.1.1.1.2 ?_
    refine rn_iload_n (q := 3) 3 rfl zd_X0_findLeastGift_1.1.1.2.1 ?_
    obtain ⟨r10, h11, h⟩ := zbd_e h
    refine rn_callVi (As := [.int x3]) (rest := []) zl_X0_66 zm_X6_shown ⟨by decide, by decide⟩ (ci := 6) rfl rfl (by decide) k_a2 rfl rfl (Nat.le_of_ble_eq_true rfl) zd_X0_findLeastGift_1.1.1.2.2 (ok_X6_shown hW k_a2 h11) ?_
    refine rn_sipush (v := 2000) zd_X0_findLeastGift_1.1.2.1.1 rfl ?_
    refine rn_min zb_X0_69 zms_min zmi zmc_min ⟨by decide, by decide⟩ (Nat.le_of_ble_eq_true rfl) zd_X0_findLeastGift_1.1.2.1.2 ?_
    refine rn_istore (ls' := [(4, .int (if (2000 : Int32) < r10 then (2000 : Int32) else r10)), (0, .ref a0), (1, .ref a1), (2, .ref a2), (3, .int x3)]) (by decide) rfl zd_X0_findLeastGift_1.1.2.2.1 ?_
    refine rn_iconst (v := 1) zd_X0_findLeastGift_1.1.2.2.2 rfl ?_
    refine rn_istore (ls' := [(5, .int (1 : Int32)), (4, .int (if (2000 : Int32) < r10 then (2000 : Int32) else r10)), (0, .ref a0), (1, .ref a1), (2, .ref a2), (3, .int x3)]) (by decide) rfl zd_X0_findLeastGift_1.2.1.1.1 ?_
    obtain ⟨e22, he22, h⟩ := zbd_e h
    refine rn_sub (ls' := [(0, .ref a0), (1, .ref a1), (2, .ref a2), (3, .int x3), (4, .int (if (2000 : Int32) < r10 then (2000 : Int32) else r10)), (5, .int (1 : Int32))]) [2, 3, 4, 5, 1, 0] rfl (zloop_ok (P := P_X0_findLeastGift_48 G K R L4 a0 a1 a2 x3 (if (2000 : Int32) < r10 then (2000 : Int32) else r10) none (M', L', R, K)) (Q := Q_X0_findLeastGift_48 G K R L4 a0 a1 a2 x3 (if (2000 : Int32) < r10 then (2000 : Int32) else r10) none (M', L', R, K)) (fun v x hx hq => ok_b_X0_findLeastGift_48 hW k_a0 k_a1 k_a2 hx hq) _ _ _ he22 ?_)
    rcases e22 with e23 | e24
    · rw [Sum.elim_inl] at h
      show Rn G mt_X0_findLeastGift 86 [(0, .ref a0), (5, .int e23.1), (6, .int e23.2.1)] [] (e23.2.2, L4, R, K) none (M', L', R, K)
      refine rn_aload_n (q := 0) 0 rfl zd_X0_findLeastGift_2.2.2.1.1 ?_
      refine rn_iload 1 rfl zd_X0_findLeastGift_2.2.2.1.2 ?_
      obtain ⟨M25, hM25, h⟩ := zlt_e h
      refine rn_putI hM25 zf_X0_43 k_a0 zd_X0_findLeastGift_2.2.2.2.1 ?_
      refine rn_aload_n (q := 0) 0 rfl zd_X0_findLeastGift_2.2.2.2.2 ?_
      refine rn_iload 2 rfl zd_X0_findLeastGift_3.1.1.1 ?_
      obtain ⟨M26, hM26, h⟩ := zlt_e h
      refine rn_putI hM26 zf_X0_46 k_a0 zd_X0_findLeastGift_3.1.1.2 ?_
      cases h
      exact rn_vret zd_X0_findLeastGift_3.1.2.1 rfl
    · rw [Sum.elim_inr] at h
      show Rn G mt_X0_findLeastGift 111 [(0, .ref a0)] [] (e24, L4, R, K) none (M', L', R, K)
      refine rn_aload_n (q := 0) 0 rfl zd_X0_findLeastGift_3.2.1.2.2 ?_
      refine rn_bipush (v := -2) zd_X0_findLeastGift_3.2.2.1 rfl ?_
      obtain ⟨M27, hM27, h⟩ := zlt_e h
      refine rn_putI hM27 zf_X0_43 k_a0 zd_X0_findLeastGift_3.2.2.2.1 ?_
      cases h
      exact rn_vret zd_X0_findLeastGift_3.2.2.2.2 rfl
abbrev P_X0_findBestGift_45 (G : zG) (K : zK) (R : zR) (a0 : Nat) (a1 : Nat) (a2 : Nat) (x3 : Int32) (x4 : Int32) (x5 : Int32) (r : Option Value) (S' : zS) (v : Int32 × zM × zL) : Prop := Rn G mt_X0_findBestGift 45 [(0, .ref a0), (1, .ref a1), (2, .ref a2), (3, .int x3), (4, .int x4), (5, .int x5), (6, .int v.1)] [] (v.2.1, v.2.2, R, K) r S'
abbrev Q_X0_findBestGift_45 (G : zG) (K : zK) (R : zR) (a0 : Nat) (a1 : Nat) (a2 : Nat) (x3 : Int32) (x4 : Int32) (x5 : Int32) (r : Option Value) (S' : zS) : (zM × zL) → Prop := (fun e => Rn G mt_X0_findBestGift 154 [] [] (e.1, e.2, R, K) r S')
abbrev P_X0_findBestGift_68 (G : zG) (K : zK) (R : zR) (a0 : Nat) (a1 : Nat) (a2 : Nat) (x3 : Int32) (x4 : Int32) (x5 : Int32) (x6 : Int32) (r : Option Value) (S' : zS) (v : Int32 × zM × zL) : Prop := Rn G mt_X0_findBestGift 68 [(0, .ref a0), (1, .ref a1), (2, .ref a2), (3, .int x3), (4, .int x4), (5, .int x5), (6, .int x6), (7, .int v.1)] [] (v.2.1, v.2.2, R, K) r S'
abbrev Q_X0_findBestGift_68 (G : zG) (K : zK) (R : zR) (a0 : Nat) (a1 : Nat) (a2 : Nat) (x3 : Int32) (x4 : Int32) (x5 : Int32) (x6 : Int32) (r : Option Value) (S' : zS) : (zM × zL) → Prop := (fun e => Rn G mt_X0_findBestGift 148 [(0, .ref a0), (1, .ref a1), (2, .ref a2), (3, .int x3), (4, .int x4), (5, .int x5), (6, .int x6)] [] (e.1, e.2, R, K) r S')
def nb_X0_findBestGift_68 (R : zR) (M : zM) (L : zL) (a0 : Nat) (a1 : Nat) (a2 : Nat) (x3 : Int32) (x4 : Int32) (x5 : Int32) (x6 : Int32) (x7 : Int32) : Option ((Int32 × zM × zL) ⊕ ((zM × zL))) :=
  if (M a2 4) ≤ x7 then (
    some (.inr (M, L))
  ) else (
    if x7 = x3 then (
      some (.inl ((x7 + 1), M, L))
    ) else (
      zbd2 (n_X6_copy R M L (R a0 0) a2) fun M18 L19 =>
      zbd (f_X6_move R M18 (R a0 0) x3 x7 (x6 * x4)) fun M21 =>
      zbd2 (n_X7_evenings R M21 L19 a1 (R a0 0) x5 (M21 a1 8)) fun M23 L24 =>
      zbd (f_X6_purseOf R M23 (R a0 0) x3) fun r26 =>
      zbd (f_X0_better M23 a0 r26 (x6 * x4) x7) fun M28 =>
      some (.inl ((x7 + 1), M28, L24))
    )
  )
set_option maxRecDepth 4000 in
theorem ok_b_X0_findBestGift_68 {G : zG} {K : zK} {R : zR} {M : zM} {L : zL} (hW : zWT R K) {a0 : Nat} {a1 : Nat} {a2 : Nat} {x3 : Int32} {x4 : Int32} {x5 : Int32} {x6 : Int32} {x7 : Int32} (k_a0 : K[a0]? = some (0, 4)) (k_a1 : K[a1]? = some (7, 11)) (k_a2 : K[a2]? = some (6, 8)) {r : Option Value} {S' : zS} {x : (Int32 × zM × zL) ⊕ ((zM × zL))} (h : nb_X0_findBestGift_68 R M L a0 a1 a2 x3 x4 x5 x6 x7 = some x) (hk : Sum.elim (P_X0_findBestGift_68 G K R a0 a1 a2 x3 x4 x5 x6 r S') (Q_X0_findBestGift_68 G K R a0 a1 a2 x3 x4 x5 x6 r S') x) : P_X0_findBestGift_68 G K R a0 a1 a2 x3 x4 x5 x6 r S' (x7, M, L) := by
  show Rn G mt_X0_findBestGift 68 [(0, .ref a0), (1, .ref a1), (2, .ref a2), (3, .int x3), (4, .int x4), (5, .int x5), (6, .int x6), (7, .int x7)] [] (M, L, R, K) r S'
  unfold nb_X0_findBestGift_68 at h
  refine rn_iload 7 rfl zd_X0_findBestGift_2.1.2.1.1 ?_
  refine rn_aload_n (q := 2) 2 rfl zd_X0_findBestGift_2.1.2.1.2 ?_
  refine rn_getI zf_X0_22 (Or.inl rfl) k_a2 zd_X0_findBestGift_2.1.2.2.1 ?_
  rcases zif_e h with ⟨hc16, h⟩ | ⟨hc16, h⟩
  · refine rn_icmp_ge_t (tgt := 148) hc16 zd_X0_findBestGift_2.1.2.2.2 rfl ?_
    cases h
    exact rn_sub (ls' := [(0, .ref a0), (1, .ref a1), (2, .ref a2), (3, .int x3), (4, .int x4), (5, .int x5), (6, .int x6)]) [0, 1, 2, 3, 4, 5, 6] rfl hk
  · refine rn_icmp_ge_f (tgt := 148) hc16 zd_X0_findBestGift_2.1.2.2.2 rfl ?_
    refine rn_iload 7 rfl zd_X0_findBestGift_2.2.1.1.1 ?_
    refine rn_iload_n (q := 3) 3 rfl zd_X0_findBestGift_2.2.1.1.2 ?_
    rcases zif_e h with ⟨hc17, h⟩ | ⟨hc17, h⟩
    · refine rn_icmp_ne_f (tgt := 86) hc17 zd_X0_findBestGift_2.2.1.2.1 rfl ?_
      refine rn_goto (tgt := 142) zd_X0_findBestGift_2.2.1.2.2 rfl ?_
      refine rn_iinc (v := (x7 + 1)) (ls' := [(7, .int (x7 + 1)), (0, .ref a0), (1, .ref a1), (2, .ref a2), (3, .int x3), (4, .int x4), (5, .int x5), (6, .int x6)]) 7 rfl rfl (by decide) rfl zd_X0_findBestGift_4.2.1.2.2 ?_
      refine rn_goto (tgt := 68) zd_X0_findBestGift_4.2.2.1.1 rfl ?_
      cases h
      exact rn_sub (ls' := [(0, .ref a0), (1, .ref a1), (2, .ref a2), (3, .int x3), (4, .int x4), (5, .int x5), (6, .int x6), (7, .int (x7 + 1))]) [1, 2, 3, 4, 5, 6, 7, 0] rfl hk
    · refine rn_icmp_ne_t (tgt := 86) hc17 zd_X0_findBestGift_2.2.1.2.1 rfl ?_
      refine rn_aload_n (q := 0) 0 rfl zd_X0_findBestGift_2.2.2.1.1 ?_
      refine rn_getR zf_X0_12 (Or.inl ⟨_, rfl⟩) k_a0 (zx_0_0 hW k_a0) zd_X0_findBestGift_2.2.2.1.2 ?_
      refine rn_aload_n (q := 2) 2 rfl zd_X0_findBestGift_2.2.2.2.1 ?_
      obtain ⟨M18, L19, h20, h⟩ := zbd2_e h
      refine rn_callVv (As := [.ref a2]) (rest := []) zl_X0_25 zm_X6_copy ⟨by decide, by decide⟩ (ci := 6) rfl rfl (by decide) (zw_0_0 hW k_a0) rfl rfl (Nat.le_of_ble_eq_true rfl) zd_X0_findBestGift_2.2.2.2.2 (ok_X6_copy hW (zw_0_0 hW k_a0) k_a2 h20) ?_
      refine rn_aload_n (q := 0) 0 rfl zd_X0_findBestGift_3.1.1.1.1 ?_
      refine rn_getR zf_X0_12 (Or.inl ⟨_, rfl⟩) k_a0 (zx_0_0 hW k_a0) zd_X0_findBestGift_3.1.1.1.2 ?_
      refine rn_iload_n (q := 3) 3 rfl zd_X0_findBestGift_3.1.1.2.1 ?_
      refine rn_iload 7 rfl zd_X0_findBestGift_3.1.1.2.2 ?_
      refine rn_iload 6 rfl zd_X0_findBestGift_3.1.2.1.1 ?_
      refine rn_iload 4 rfl zd_X0_findBestGift_3.1.2.1.2 ?_
      refine rn_imul zd_X0_findBestGift_3.1.2.2.1 ?_
      obtain ⟨M21, h22, h⟩ := zbd_e h
      refine rn_callVv (As := [.int x3, .int x7, .int (x6 * x4)]) (rest := []) zl_X0_79 zm_X6_move ⟨by decide, by decide⟩ (ci := 6) rfl rfl (by decide) (zw_0_0 hW k_a0) rfl rfl (Nat.le_of_ble_eq_true rfl) zd_X0_findBestGift_3.1.2.2.2 (ok_X6_move hW (zw_0_0 hW k_a0) h22) ?_
      refine rn_aload_n (q := 1) 1 rfl zd_X0_findBestGift_3.2.1.1.1 ?_
      refine rn_aload_n (q := 0) 0 rfl zd_X0_findBestGift_3.2.1.1.2 ?_
      refine rn_getR zf_X0_12 (Or.inl ⟨_, rfl⟩) k_a0 (zx_0_0 hW k_a0) zd_X0_findBestGift_3.2.1.2.1 ?_
      refine rn_iload 5 rfl zd_X0_findBestGift_3.2.1.2.2 ?_
      refine rn_aload_n (q := 1) 1 rfl zd_X0_findBestGift_3.2.2.1.1 ?_
      refine rn_getI zf_X0_49 (Or.inl rfl) k_a1 zd_X0_findBestGift_3.2.2.1.2 ?_
      obtain ⟨M23, L24, h25, h⟩ := zbd2_e h
      refine rn_callVv (As := [.ref (R a0 0), .int x5, .int (M21 a1 8)]) (rest := []) zl_X0_82 zm_X7_evenings ⟨by decide, by decide⟩ (ci := 7) rfl rfl (by decide) k_a1 rfl rfl (Nat.le_of_ble_eq_true rfl) zd_X0_findBestGift_3.2.2.2.1 (ok_X7_evenings hW k_a1 (zw_0_0 hW k_a0) h25) ?_
      refine rn_aload_n (q := 0) 0 rfl zd_X0_findBestGift_3.2.2.2.2 ?_
      refine rn_aload_n (q := 0) 0 rfl zd_X0_findBestGift_4.1.1.1 ?_
      refine rn_getR zf_X0_12 (Or.inl ⟨_, rfl⟩) k_a0 (zx_0_0 hW k_a0) zd_X0_findBestGift_4.1.1.2.1 ?_
      refine rn_iload_n (q := 3) 3 rfl zd_X0_findBestGift_4.1.1.2.2 ?_
      obtain ⟨r26, h27, h⟩ := zbd_e h
      refine rn_callVi (As := [.int x3]) (rest := [.ref a0]) zl_X0_35 zm_X6_purseOf ⟨by decide, by decide⟩ (ci := 6) rfl rfl (by decide) (zw_0_0 hW k_a0) rfl rfl (Nat.le_of_ble_eq_true rfl) zd_X0_findBestGift_4.1.2.1.1 (ok_X6_purseOf hW (zw_0_0 hW k_a0) h27) ?_
      refine rn_iload 6 rfl zd_X0_findBestGift_4.1.2.1.2 ?_
      refine rn_iload 4 rfl zd_X0_findBestGift_4.1.2.2.1 ?_
      refine rn_imul zd_X0_findBestGift_4.1.2.2.2 ?_
      refine rn_iload 7 rfl zd_X0_findBestGift_4.2.1.1 ?_
      obtain ⟨M28, h29, h⟩ := zbd_e h
      refine rn_callVv (As := [.int r26, .int (x6 * x4), .int x7]) (rest := []) zl_X0_39 zm_X0_better ⟨by decide, by decide⟩ (ci := 0) rfl rfl (by decide) k_a0 rfl rfl (Nat.le_of_ble_eq_true rfl) zd_X0_findBestGift_4.2.1.2.1 (ok_X0_better hW k_a0 h29) ?_
      refine rn_iinc (v := (x7 + 1)) (ls' := [(7, .int (x7 + 1)), (0, .ref a0), (1, .ref a1), (2, .ref a2), (3, .int x3), (4, .int x4), (5, .int x5), (6, .int x6)]) 7 rfl rfl (by decide) rfl zd_X0_findBestGift_4.2.1.2.2 ?_
      refine rn_goto (tgt := 68) zd_X0_findBestGift_4.2.2.1.1 rfl ?_
      cases h
      exact rn_sub (ls' := [(0, .ref a0), (1, .ref a1), (2, .ref a2), (3, .int x3), (4, .int x4), (5, .int x5), (6, .int x6), (7, .int (x7 + 1))]) [1, 2, 3, 4, 5, 6, 7, 0] rfl hk
def nb_X0_findBestGift_45 (R : zR) (M : zM) (L : zL) (a0 : Nat) (a1 : Nat) (a2 : Nat) (x3 : Int32) (x4 : Int32) (x5 : Int32) (x6 : Int32) : Option ((Int32 × zM × zL) ⊕ ((zM × zL))) :=
  if (20 : Int32) < x6 then (
    some (.inr (M, L))
  ) else (
    zbd (f_X6_shown R M a2 x3) fun r13 =>
    if r13 < (x6 * x4) then (
      some (.inr (M, L))
    ) else (
      zbd (zloop zN (fun v => nb_X0_findBestGift_68 R v.2.1 v.2.2 a0 a1 a2 x3 x4 x5 x6 v.1) ((0 : Int32), M, L)) fun e30 =>
      some (.inl ((x6 + 1), e30.1, e30.2))
    )
  )
set_option maxRecDepth 4000 in
theorem ok_b_X0_findBestGift_45 {G : zG} {K : zK} {R : zR} {M : zM} {L : zL} (hW : zWT R K) {a0 : Nat} {a1 : Nat} {a2 : Nat} {x3 : Int32} {x4 : Int32} {x5 : Int32} {x6 : Int32} (k_a0 : K[a0]? = some (0, 4)) (k_a1 : K[a1]? = some (7, 11)) (k_a2 : K[a2]? = some (6, 8)) {r : Option Value} {S' : zS} {x : (Int32 × zM × zL) ⊕ ((zM × zL))} (h : nb_X0_findBestGift_45 R M L a0 a1 a2 x3 x4 x5 x6 = some x) (hk : Sum.elim (P_X0_findBestGift_45 G K R a0 a1 a2 x3 x4 x5 r S') (Q_X0_findBestGift_45 G K R a0 a1 a2 x3 x4 x5 r S') x) : P_X0_findBestGift_45 G K R a0 a1 a2 x3 x4 x5 r S' (x6, M, L) := by
  show Rn G mt_X0_findBestGift 45 [(0, .ref a0), (1, .ref a1), (2, .ref a2), (3, .int x3), (4, .int x4), (5, .int x5), (6, .int x6)] [] (M, L, R, K) r S'
  unfold nb_X0_findBestGift_45 at h
  refine rn_iload 6 rfl zd_X0_findBestGift_1.2.1.1.1 ?_
  refine rn_bipush (v := 20) zd_X0_findBestGift_1.2.1.1.2 rfl ?_
  rcases zif_e h with ⟨hc12, h⟩ | ⟨hc12, h⟩
  · refine rn_icmp_gt_t (tgt := 154) hc12 zd_X0_findBestGift_1.2.1.2.1 rfl ?_
    cases h
    exact rn_sub (ls' := []) [] rfl hk
  · refine rn_icmp_gt_f (tgt := 154) hc12 zd_X0_findBestGift_1.2.1.2.1 rfl ?_
    refine rn_iload 6 rfl zd_X0_findBestGift_1.2.1.2.2 ?_
    refine rn_iload 4 rfl zd_X0_findBestGift_1.2.2.1.1 ?_
    refine rn_imul zd_X0_findBestGift_1.2.2.1.2 ?_
    refine rn_aload_n (q := 2) 2 rfl zd_X0_findBestGift_1.2.2.2.1 ?_
    refine rn_iload_n (q := 3) 3 rfl zd_X0_findBestGift_1.2.2.2.2 ?_
    obtain ⟨r13, h14, h⟩ := zbd_e h
    refine rn_callVi (As := [.int x3]) (rest := [.int (x6 * x4)]) zl_X0_66 zm_X6_shown ⟨by decide, by decide⟩ (ci := 6) rfl rfl (by decide) k_a2 rfl rfl (Nat.le_of_ble_eq_true rfl) zd_X0_findBestGift_2.1.1.1.1 (ok_X6_shown hW k_a2 h14) ?_
    rcases zif_e h with ⟨hc15, h⟩ | ⟨hc15, h⟩
    · refine rn_icmp_gt_t (tgt := 154) hc15 zd_X0_findBestGift_2.1.1.1.2 rfl ?_
      cases h
      exact rn_sub (ls' := []) [] rfl hk
    · refine rn_icmp_gt_f (tgt := 154) hc15 zd_X0_findBestGift_2.1.1.1.2 rfl ?_
      refine rn_iconst (v := 0) zd_X0_findBestGift_2.1.1.2.1 rfl ?_
      refine rn_istore (ls' := [(7, .int (0 : Int32)), (0, .ref a0), (1, .ref a1), (2, .ref a2), (3, .int x3), (4, .int x4), (5, .int x5), (6, .int x6)]) (by decide) rfl zd_X0_findBestGift_2.1.1.2.2 ?_
      obtain ⟨e30, he30, h⟩ := zbd_e h
      refine rn_sub (ls' := [(0, .ref a0), (1, .ref a1), (2, .ref a2), (3, .int x3), (4, .int x4), (5, .int x5), (6, .int x6), (7, .int (0 : Int32))]) [1, 2, 3, 4, 5, 6, 7, 0] rfl (zloop_ok (P := P_X0_findBestGift_68 G K R a0 a1 a2 x3 x4 x5 x6 r S') (Q := Q_X0_findBestGift_68 G K R a0 a1 a2 x3 x4 x5 x6 r S') (fun v x hx hq => ok_b_X0_findBestGift_68 hW k_a0 k_a1 k_a2 hx hq) _ _ _ he30 ?_)
      show Rn G mt_X0_findBestGift 148 [(0, .ref a0), (1, .ref a1), (2, .ref a2), (3, .int x3), (4, .int x4), (5, .int x5), (6, .int x6)] [] (e30.1, e30.2, R, K) r S'
      refine rn_iinc (v := (x6 + 1)) (ls' := [(6, .int (x6 + 1)), (0, .ref a0), (1, .ref a1), (2, .ref a2), (3, .int x3), (4, .int x4), (5, .int x5)]) 6 rfl rfl (by decide) rfl zd_X0_findBestGift_4.2.2.1.2 ?_
      refine rn_goto (tgt := 45) zd_X0_findBestGift_4.2.2.2.1 rfl ?_
      cases h
      exact rn_sub (ls' := [(0, .ref a0), (1, .ref a1), (2, .ref a2), (3, .int x3), (4, .int x4), (5, .int x5), (6, .int (x6 + 1))]) [1, 2, 3, 4, 5, 6, 0] rfl hk
def n_X0_findBestGift (R : zR) (M : zM) (L : zL) (a0 : Nat) (a1 : Nat) (a2 : Nat) (x3 : Int32) (x4 : Int32) (x5 : Int32) : Option (zM × zL) :=
  zbd2 (n_X6_copy R M L (R a0 0) a2) fun M1 L2 =>
  zbd2 (n_X7_evenings R M1 L2 a1 (R a0 0) x5 (M1 a1 8)) fun M4 L5 =>
  zlt (zup M4 a0 3 (-1 : Int32)) fun M7 =>
  zbd (f_X6_purseOf R M7 (R a0 0) x3) fun r8 =>
  zbd (f_X0_better M7 a0 r8 (0 : Int32) (-2 : Int32)) fun M10 =>
  zbd (zloop zN (fun v => nb_X0_findBestGift_45 R v.2.1 v.2.2 a0 a1 a2 x3 x4 x5 v.1) ((1 : Int32), M10, L5)) fun e31 =>
  some (e31.1, e31.2)
set_option maxRecDepth 4000 in
theorem ok_X0_findBestGift {G : zG} {K : zK} {R : zR} {M : zM} {L : zL} (hW : zWT R K) {a0 : Nat} {a1 : Nat} {a2 : Nat} {x3 : Int32} {x4 : Int32} {x5 : Int32} (k_a0 : K[a0]? = some (0, 4)) (k_a1 : K[a1]? = some (7, 11)) (k_a2 : K[a2]? = some (6, 8)) {M' : zM} {L' : zL} (h : n_X0_findBestGift R M L a0 a1 a2 x3 x4 x5 = some (M', L')) : Rm G mt_X0_findBestGift [.ref a0, .ref a1, .ref a2, .int x3, .int x4, .int x5] (M, L, R, K) none (M', L', R, K) := by
  refine rm_rn rfl rfl (Nat.le_of_ble_eq_true rfl) ?_
  show Rn G mt_X0_findBestGift 0 [(0, .ref a0), (1, .ref a1), (2, .ref a2), (3, .int x3), (4, .int x4), (5, .int x5)] [] (M, L, R, K) none (M', L', R, K)
  unfold n_X0_findBestGift at h
  refine rn_aload_n (q := 0) 0 rfl zd_X0_findBestGift_0.1.1.1.1 ?_
  refine rn_getR zf_X0_12 (Or.inl ⟨_, rfl⟩) k_a0 (zx_0_0 hW k_a0) zd_X0_findBestGift_0.1.1.1.2 ?_
  refine rn_aload_n (q := 2) 2 rfl zd_X0_findBestGift_0.1.1.2.1 ?_
  obtain ⟨M1, L2, h3, h⟩ := zbd2_e h
  refine rn_callVv (As := [.ref a2]) (rest := []) zl_X0_25 zm_X6_copy ⟨by decide, by decide⟩ (ci := 6) rfl rfl (by decide) (zw_0_0 hW k_a0) rfl rfl (Nat.le_of_ble_eq_true rfl) zd_X0_findBestGift_0.1.1.2.2 (ok_X6_copy hW (zw_0_0 hW k_a0) k_a2 h3) ?_
  refine rn_aload_n (q := 1) 1 rfl zd_X0_findBestGift_0.1.2.1.1 ?_
  refine rn_aload_n (q := 0) 0 rfl zd_X0_findBestGift_0.1.2.1.2 ?_
  refine rn_getR zf_X0_12 (Or.inl ⟨_, rfl⟩) k_a0 (zx_0_0 hW k_a0) zd_X0_findBestGift_0.1.2.2.1 ?_
  refine rn_iload 5 rfl zd_X0_findBestGift_0.1.2.2.2 ?_
  refine rn_aload_n (q := 1) 1 rfl zd_X0_findBestGift_0.2.1.1.1 ?_
  refine rn_getI zf_X0_49 (Or.inl rfl) k_a1 zd_X0_findBestGift_0.2.1.1.2 ?_
  obtain ⟨M4, L5, h6, h⟩ := zbd2_e h
  refine rn_callVv (As := [.ref (R a0 0), .int x5, .int (M1 a1 8)]) (rest := []) zl_X0_82 zm_X7_evenings ⟨by decide, by decide⟩ (ci := 7) rfl rfl (by decide) k_a1 rfl rfl (Nat.le_of_ble_eq_true rfl) zd_X0_findBestGift_0.2.1.2.1 (ok_X7_evenings hW k_a1 (zw_0_0 hW k_a0) h6) ?_
  refine rn_aload_n (q := 0) 0 rfl zd_X0_findBestGift_0.2.1.2.2 ?_
  refine rn_iconst (v := -1) zd_X0_findBestGift_0.2.2.1.1 rfl ?_
  obtain ⟨M7, hM7, h⟩ := zlt_e h
  refine rn_putI hM7 zf_X0_18 k_a0 zd_X0_findBestGift_0.2.2.1.2 ?_
  refine rn_aload_n (q := 0) 0 rfl zd_X0_findBestGift_0.2.2.2.1 ?_
  refine rn_aload_n (q := 0) 0 rfl zd_X0_findBestGift_0.2.2.2.2 ?_
  refine rn_getR zf_X0_12 (Or.inl ⟨_, rfl⟩) k_a0 (zx_0_0 hW k_a0) zd_X0_findBestGift_1.1.1.1.1 ?_
  refine rn_iload_n (q := 3) 3 rfl zd_X0_findBestGift_1.1.1.1.2 ?_
  obtain ⟨r8, h9, h⟩ := zbd_e h
  refine rn_callVi (As := [.int x3]) (rest := [.ref a0]) zl_X0_35 zm_X6_purseOf ⟨by decide, by decide⟩ (ci := 6) rfl rfl (by decide) (zw_0_0 hW k_a0) rfl rfl (Nat.le_of_ble_eq_true rfl) zd_X0_findBestGift_1.1.1.2.1 (ok_X6_purseOf hW (zw_0_0 hW k_a0) h9) ?_
  refine rn_iconst (v := 0) zd_X0_findBestGift_1.1.1.2.2 rfl ?_
  refine rn_bipush (v := -2) zd_X0_findBestGift_1.1.2.1.1 rfl ?_
  obtain ⟨M10, h11, h⟩ := zbd_e h
  refine rn_callVv (As := [.int r8, .int (0 : Int32), .int (-2 : Int32)]) (rest := []) zl_X0_39 zm_X0_better ⟨by decide, by decide⟩ (ci := 0) rfl rfl (by decide) k_a0 rfl rfl (Nat.le_of_ble_eq_true rfl) zd_X0_findBestGift_1.1.2.1.2 (ok_X0_better hW k_a0 h11) ?_
  refine rn_iconst (v := 1) zd_X0_findBestGift_1.1.2.2.1 rfl ?_
  refine rn_istore (ls' := [(6, .int (1 : Int32)), (0, .ref a0), (1, .ref a1), (2, .ref a2), (3, .int x3), (4, .int x4), (5, .int x5)]) (by decide) rfl zd_X0_findBestGift_1.1.2.2.2 ?_
  obtain ⟨e31, he31, h⟩ := zbd_e h
  refine rn_sub (ls' := [(0, .ref a0), (1, .ref a1), (2, .ref a2), (3, .int x3), (4, .int x4), (5, .int x5), (6, .int (1 : Int32))]) [1, 2, 3, 4, 5, 6, 0] rfl (zloop_ok (P := P_X0_findBestGift_45 G K R a0 a1 a2 x3 x4 x5 none (M', L', R, K)) (Q := Q_X0_findBestGift_45 G K R a0 a1 a2 x3 x4 x5 none (M', L', R, K)) (fun v x hx hq => ok_b_X0_findBestGift_45 hW k_a0 k_a1 k_a2 hx hq) _ _ _ he31 ?_)
  show Rn G mt_X0_findBestGift 154 [] [] (e31.1, e31.2, R, K) none (M', L', R, K)
  cases h
  exact rn_vret zd_X0_findBestGift_4.2.2.2.2 rfl
def nj_X0_rate_45 (R : zR) (M : zM) (L : zL) (a0 : Nat) (a1 : Nat) (a2 : Nat) (x3 : Int32) (x4 : Int32) (x5 : Int32) (x6 : Int32) (s0 : Int32) : Option (Int32 × zM × zL) :=
  zbd2 (n_X6_copy R M L (R a0 0) a2) fun M10 L11 =>
  zbd (f_X6_move R M10 (R a0 0) x3 x4 x5) fun M13 =>
  zbd2 (n_X7_evening R M13 L11 a1 (R a0 0) (M13 a1 8)) fun M15 L16 =>
  zbd (f_X6_shown R M15 (R a0 0) x4) fun r18 =>
  zbd (f_X6_move R M15 (R a0 0) x4 x3 (if r18 < x5 then r18 else x5)) fun M20 =>
  if x6 = 0 then (
    zbd (f_X6_purseOf R M20 (R a0 0) x3) fun r23 =>
    some ((s0 - r23), M20, L16)
  ) else (
    zbd (f_X6_purseOf R M20 (R a0 0) x4) fun r25 =>
    some ((r25 - s0), M20, L16)
  )
set_option maxRecDepth 4000 in
theorem ok_j_X0_rate_45 {G : zG} {K : zK} {R : zR} {M : zM} {L : zL} (hW : zWT R K) {a0 : Nat} {a1 : Nat} {a2 : Nat} {x3 : Int32} {x4 : Int32} {x5 : Int32} {x6 : Int32} {s0 : Int32} (k_a0 : K[a0]? = some (0, 4)) (k_a1 : K[a1]? = some (7, 11)) (k_a2 : K[a2]? = some (6, 8)) {r' : Int32} {M' : zM} {L' : zL} (h : nj_X0_rate_45 R M L a0 a1 a2 x3 x4 x5 x6 s0 = some (r', M', L')) : Rn G mt_X0_rate 45 [(0, .ref a0), (1, .ref a1), (2, .ref a2), (3, .int x3), (4, .int x4), (5, .int x5), (6, .int x6)] [.int s0] (M, L, R, K) (some (.int r')) (M', L', R, K) := by
  unfold nj_X0_rate_45 at h
  refine rn_istore (ls' := [(7, .int s0), (0, .ref a0), (1, .ref a1), (2, .ref a2), (3, .int x3), (4, .int x4), (5, .int x5), (6, .int x6)]) (by decide) rfl zd_X0_rate_1.1.2.1.2 ?_
  refine rn_aload_n (q := 0) 1 rfl zd_X0_rate_1.1.2.2.1 ?_
  refine rn_getR zf_X0_12 (Or.inl ⟨_, rfl⟩) k_a0 (zx_0_0 hW k_a0) zd_X0_rate_1.1.2.2.2 ?_
  refine rn_aload_n (q := 2) 3 rfl zd_X0_rate_1.2.1.1.1 ?_
  obtain ⟨M10, L11, h12, h⟩ := zbd2_e h
  refine rn_callVv (As := [.ref a2]) (rest := []) zl_X0_25 zm_X6_copy ⟨by decide, by decide⟩ (ci := 6) rfl rfl (by decide) (zw_0_0 hW k_a0) rfl rfl (Nat.le_of_ble_eq_true rfl) zd_X0_rate_1.2.1.1.2 (ok_X6_copy hW (zw_0_0 hW k_a0) k_a2 h12) ?_
  refine rn_aload_n (q := 0) 1 rfl zd_X0_rate_1.2.1.2.1 ?_
  refine rn_getR zf_X0_12 (Or.inl ⟨_, rfl⟩) k_a0 (zx_0_0 hW k_a0) zd_X0_rate_1.2.1.2.2 ?_
  refine rn_iload_n (q := 3) 4 rfl zd_X0_rate_1.2.2.1.1 ?_
  refine rn_iload 5 rfl zd_X0_rate_1.2.2.1.2 ?_
  refine rn_iload 6 rfl zd_X0_rate_1.2.2.2.1 ?_
  obtain ⟨M13, h14, h⟩ := zbd_e h
  refine rn_callVv (As := [.int x3, .int x4, .int x5]) (rest := []) zl_X0_79 zm_X6_move ⟨by decide, by decide⟩ (ci := 6) rfl rfl (by decide) (zw_0_0 hW k_a0) rfl rfl (Nat.le_of_ble_eq_true rfl) zd_X0_rate_1.2.2.2.2 (ok_X6_move hW (zw_0_0 hW k_a0) h14) ?_
  refine rn_aload_n (q := 1) 2 rfl zd_X0_rate_2.1.1.1.1 ?_
  refine rn_aload_n (q := 0) 1 rfl zd_X0_rate_2.1.1.1.2 ?_
  refine rn_getR zf_X0_12 (Or.inl ⟨_, rfl⟩) k_a0 (zx_0_0 hW k_a0) zd_X0_rate_2.1.1.2.1 ?_
  refine rn_aload_n (q := 1) 2 rfl zd_X0_rate_2.1.1.2.2 ?_
  refine rn_getI zf_X0_49 (Or.inl rfl) k_a1 zd_X0_rate_2.1.2.1.1 ?_
  obtain ⟨M15, L16, h17, h⟩ := zbd2_e h
  refine rn_callVv (As := [.ref (R a0 0), .int (M13 a1 8)]) (rest := []) zl_X0_52 zm_X7_evening ⟨by decide, by decide⟩ (ci := 7) rfl rfl (by decide) k_a1 rfl rfl (Nat.le_of_ble_eq_true rfl) zd_X0_rate_2.1.2.1.2 (ok_X7_evening hW k_a1 (zw_0_0 hW k_a0) h17) ?_
  refine rn_aload_n (q := 0) 1 rfl zd_X0_rate_2.1.2.2.1 ?_
  refine rn_getR zf_X0_12 (Or.inl ⟨_, rfl⟩) k_a0 (zx_0_0 hW k_a0) zd_X0_rate_2.1.2.2.2 ?_
  refine rn_iload 5 rfl zd_X0_rate_2.2.1.1.1 ?_
  refine rn_iload_n (q := 3) 4 rfl zd_X0_rate_2.2.1.1.2 ?_
  refine rn_iload 6 rfl zd_X0_rate_2.2.1.2.1 ?_
  refine rn_aload_n (q := 0) 1 rfl zd_X0_rate_2.2.1.2.2 ?_
  refine rn_getR zf_X0_12 (Or.inl ⟨_, rfl⟩) k_a0 (zx_0_0 hW k_a0) zd_X0_rate_2.2.2.1.1 ?_
  refine rn_iload 5 rfl zd_X0_rate_2.2.2.1.2 ?_
  obtain ⟨r18, h19, h⟩ := zbd_e h
  refine rn_callVi (As := [.int x4]) (rest := [.int x5, .int x3, .int x4, .ref (R a0 0)]) zl_X0_66 zm_X6_shown ⟨by decide, by decide⟩ (ci := 6) rfl rfl (by decide) (zw_0_0 hW k_a0) rfl rfl (Nat.le_of_ble_eq_true rfl) zd_X0_rate_2.2.2.2.1 (ok_X6_shown hW (zw_0_0 hW k_a0) h19) ?_
  refine rn_min zb_X0_69 zms_min zmi zmc_min ⟨by decide, by decide⟩ (Nat.le_of_ble_eq_true rfl) zd_X0_rate_2.2.2.2.2 ?_
  obtain ⟨M20, h21, h⟩ := zbd_e h
  refine rn_callVv (As := [.int x4, .int x3, .int (if r18 < x5 then r18 else x5)]) (rest := []) zl_X0_79 zm_X6_move ⟨by decide, by decide⟩ (ci := 6) rfl rfl (by decide) (zw_0_0 hW k_a0) rfl rfl (Nat.le_of_ble_eq_true rfl) zd_X0_rate_3.1.1.1.1 (ok_X6_move hW (zw_0_0 hW k_a0) h21) ?_
  refine rn_iload 7 rfl zd_X0_rate_3.1.1.1.2 ?_
  rcases zif_e h with ⟨hc22, h⟩ | ⟨hc22, h⟩
  · refine rn_if_eq_t (tgt := 123) hc22 zd_X0_rate_3.1.1.2.1 rfl ?_
    refine rn_iload 0 rfl zd_X0_rate_3.2.1.2.1 ?_
    refine rn_aload_n (q := 0) 1 rfl zd_X0_rate_3.2.1.2.2 ?_
    refine rn_getR zf_X0_12 (Or.inl ⟨_, rfl⟩) k_a0 (zx_0_0 hW k_a0) zd_X0_rate_3.2.2.1.1 ?_
    refine rn_iload_n (q := 3) 4 rfl zd_X0_rate_3.2.2.1.2 ?_
    obtain ⟨r23, h24, h⟩ := zbd_e h
    refine rn_callVi (As := [.int x3]) (rest := [.int s0]) zl_X0_35 zm_X6_purseOf ⟨by decide, by decide⟩ (ci := 6) rfl rfl (by decide) (zw_0_0 hW k_a0) rfl rfl (Nat.le_of_ble_eq_true rfl) zd_X0_rate_3.2.2.2.1 (ok_X6_purseOf hW (zw_0_0 hW k_a0) h24) ?_
    refine rn_isub zd_X0_rate_3.2.2.2.2 ?_
    cases h
    exact rn_iret zd_X0_rate_4 rfl
  · refine rn_if_eq_f (tgt := 123) hc22 zd_X0_rate_3.1.1.2.1 rfl ?_
    refine rn_aload_n (q := 0) 1 rfl zd_X0_rate_3.1.1.2.2 ?_
    refine rn_getR zf_X0_12 (Or.inl ⟨_, rfl⟩) k_a0 (zx_0_0 hW k_a0) zd_X0_rate_3.1.2.1.1 ?_
    refine rn_iload 5 rfl zd_X0_rate_3.1.2.1.2 ?_
    obtain ⟨r25, h26, h⟩ := zbd_e h
    refine rn_callVi (As := [.int x4]) (rest := []) zl_X0_35 zm_X6_purseOf ⟨by decide, by decide⟩ (ci := 6) rfl rfl (by decide) (zw_0_0 hW k_a0) rfl rfl (Nat.le_of_ble_eq_true rfl) zd_X0_rate_3.1.2.2.1 (ok_X6_purseOf hW (zw_0_0 hW k_a0) h26) ?_
    refine rn_iload 0 rfl zd_X0_rate_3.1.2.2.2 ?_
    refine rn_isub zd_X0_rate_3.2.1.1.1 ?_
    refine rn_goto (tgt := 134) zd_X0_rate_3.2.1.1.2 rfl ?_
    cases h
    exact rn_iret zd_X0_rate_4 rfl
def n_X0_rate (R : zR) (M : zM) (L : zL) (a0 : Nat) (a1 : Nat) (a2 : Nat) (x3 : Int32) (x4 : Int32) (x5 : Int32) (x6 : Int32) : Option (Int32 × zM × zL) :=
  zbd2 (n_X6_copy R M L (R a0 0) a2) fun M1 L2 =>
  zbd2 (n_X7_evening R M1 L2 a1 (R a0 0) (M1 a1 8)) fun M4 L5 =>
  if x6 = 0 then (
    zbd (f_X6_purseOf R M4 (R a0 0) x3) fun r8 =>
    nj_X0_rate_45 R M4 L5 a0 a1 a2 x3 x4 x5 x6 r8
  ) else (
    zbd (f_X6_purseOf R M4 (R a0 0) x4) fun r27 =>
    nj_X0_rate_45 R M4 L5 a0 a1 a2 x3 x4 x5 x6 r27
  )
set_option maxRecDepth 4000 in
theorem ok_X0_rate {G : zG} {K : zK} {R : zR} {M : zM} {L : zL} (hW : zWT R K) {a0 : Nat} {a1 : Nat} {a2 : Nat} {x3 : Int32} {x4 : Int32} {x5 : Int32} {x6 : Int32} (k_a0 : K[a0]? = some (0, 4)) (k_a1 : K[a1]? = some (7, 11)) (k_a2 : K[a2]? = some (6, 8)) {r' : Int32} {M' : zM} {L' : zL} (h : n_X0_rate R M L a0 a1 a2 x3 x4 x5 x6 = some (r', M', L')) : Rm G mt_X0_rate [.ref a0, .ref a1, .ref a2, .int x3, .int x4, .int x5, .int x6] (M, L, R, K) (some (.int r')) (M', L', R, K) := by
  refine rm_rn rfl rfl (Nat.le_of_ble_eq_true rfl) ?_
  show Rn G mt_X0_rate 0 [(0, .ref a0), (1, .ref a1), (2, .ref a2), (3, .int x3), (4, .int x4), (5, .int x5), (6, .int x6)] [] (M, L, R, K) (some (.int r')) (M', L', R, K)
  unfold n_X0_rate at h
  refine rn_aload_n (q := 0) 0 rfl zd_X0_rate_0.1.1.1.1 ?_
  refine rn_getR zf_X0_12 (Or.inl ⟨_, rfl⟩) k_a0 (zx_0_0 hW k_a0) zd_X0_rate_0.1.1.1.2 ?_
  refine rn_aload_n (q := 2) 2 rfl zd_X0_rate_0.1.1.2.1 ?_
  obtain ⟨M1, L2, h3, h⟩ := zbd2_e h
  refine rn_callVv (As := [.ref a2]) (rest := []) zl_X0_25 zm_X6_copy ⟨by decide, by decide⟩ (ci := 6) rfl rfl (by decide) (zw_0_0 hW k_a0) rfl rfl (Nat.le_of_ble_eq_true rfl) zd_X0_rate_0.1.1.2.2 (ok_X6_copy hW (zw_0_0 hW k_a0) k_a2 h3) ?_
  refine rn_aload_n (q := 1) 1 rfl zd_X0_rate_0.1.2.1.1 ?_
  refine rn_aload_n (q := 0) 0 rfl zd_X0_rate_0.1.2.1.2 ?_
  refine rn_getR zf_X0_12 (Or.inl ⟨_, rfl⟩) k_a0 (zx_0_0 hW k_a0) zd_X0_rate_0.1.2.2.1 ?_
  refine rn_aload_n (q := 1) 1 rfl zd_X0_rate_0.1.2.2.2 ?_
  refine rn_getI zf_X0_49 (Or.inl rfl) k_a1 zd_X0_rate_0.2.1.1.1 ?_
  obtain ⟨M4, L5, h6, h⟩ := zbd2_e h
  refine rn_callVv (As := [.ref (R a0 0), .int (M1 a1 8)]) (rest := []) zl_X0_52 zm_X7_evening ⟨by decide, by decide⟩ (ci := 7) rfl rfl (by decide) k_a1 rfl rfl (Nat.le_of_ble_eq_true rfl) zd_X0_rate_0.2.1.1.2 (ok_X7_evening hW k_a1 (zw_0_0 hW k_a0) h6) ?_
  refine rn_iload 6 rfl zd_X0_rate_0.2.1.2.1 ?_
  rcases zif_e h with ⟨hc7, h⟩ | ⟨hc7, h⟩
  · refine rn_if_eq_t (tgt := 37) hc7 zd_X0_rate_0.2.1.2.2 rfl ?_
    refine rn_aload_n (q := 0) 0 rfl zd_X0_rate_1.1.1.1.2 ?_
    refine rn_getR zf_X0_12 (Or.inl ⟨_, rfl⟩) k_a0 (zx_0_0 hW k_a0) zd_X0_rate_1.1.1.2.1 ?_
    refine rn_iload_n (q := 3) 3 rfl zd_X0_rate_1.1.1.2.2 ?_
    obtain ⟨r8, h9, h⟩ := zbd_e h
    refine rn_callVi (As := [.int x3]) (rest := []) zl_X0_35 zm_X6_purseOf ⟨by decide, by decide⟩ (ci := 6) rfl rfl (by decide) (zw_0_0 hW k_a0) rfl rfl (Nat.le_of_ble_eq_true rfl) zd_X0_rate_1.1.2.1.1 (ok_X6_purseOf hW (zw_0_0 hW k_a0) h9) ?_
    exact rn_sub (ls' := [(0, .ref a0), (1, .ref a1), (2, .ref a2), (3, .int x3), (4, .int x4), (5, .int x5), (6, .int x6)]) [0, 1, 2, 3, 4, 5, 6] rfl (ok_j_X0_rate_45 hW k_a0 k_a1 k_a2 h)
  · refine rn_if_eq_f (tgt := 37) hc7 zd_X0_rate_0.2.1.2.2 rfl ?_
    refine rn_aload_n (q := 0) 0 rfl zd_X0_rate_0.2.2.1.1 ?_
    refine rn_getR zf_X0_12 (Or.inl ⟨_, rfl⟩) k_a0 (zx_0_0 hW k_a0) zd_X0_rate_0.2.2.1.2 ?_
    refine rn_iload 4 rfl zd_X0_rate_0.2.2.2.1 ?_
    obtain ⟨r27, h28, h⟩ := zbd_e h
    refine rn_callVi (As := [.int x4]) (rest := []) zl_X0_35 zm_X6_purseOf ⟨by decide, by decide⟩ (ci := 6) rfl rfl (by decide) (zw_0_0 hW k_a0) rfl rfl (Nat.le_of_ble_eq_true rfl) zd_X0_rate_0.2.2.2.2 (ok_X6_purseOf hW (zw_0_0 hW k_a0) h28) ?_
    refine rn_goto (tgt := 45) zd_X0_rate_1.1.1.1.1 rfl ?_
    exact rn_sub (ls' := [(0, .ref a0), (1, .ref a1), (2, .ref a2), (3, .int x3), (4, .int x4), (5, .int x5), (6, .int x6)]) [0, 1, 2, 3, 4, 5, 6] rfl (ok_j_X0_rate_45 hW k_a0 k_a1 k_a2 h)
abbrev P_X0_bestSite_11 (G : zG) (K : zK) (R : zR) (a0 : Nat) (a1 : Nat) (a2 : Nat) (x3 : Int32) (r : Option Value) (S' : zS) (v : Int32 × Int64 × Int32 × zM × zL) : Prop := Rn G mt_X0_bestSite 11 [(0, .ref a0), (1, .ref a1), (2, .ref a2), (3, .int x3), (4, .int v.1), (5, .long v.2.1), (7, .int v.2.2.1)] [] (v.2.2.2.1, v.2.2.2.2, R, K) r S'
abbrev Q_X0_bestSite_11 (G : zG) (K : zK) (R : zR) (a0 : Nat) (a1 : Nat) (a2 : Nat) (x3 : Int32) (r : Option Value) (S' : zS) : (Int32 × zM × zL) → Prop := (fun e => Rn G mt_X0_bestSite 100 [(4, .int e.1)] [] (e.2.1, e.2.2, R, K) r S')
abbrev P_X0_bestSite_44 (G : zG) (K : zK) (R : zR) (L : zL) (a0 : Nat) (a1 : Nat) (a2 : Nat) (x3 : Int32) (x4 : Int32) (y5 : Int64) (x7 : Int32) (r : Option Value) (S' : zS) (v : Int64 × Int32 × zM) : Prop := Rn G mt_X0_bestSite 44 [(0, .ref a0), (1, .ref a1), (2, .ref a2), (3, .int x3), (4, .int x4), (5, .long y5), (7, .int x7), (8, .long v.1), (10, .int v.2.1)] [] (v.2.2, L, R, K) r S'
abbrev Q_X0_bestSite_44 (G : zG) (K : zK) (R : zR) (L : zL) (a0 : Nat) (a1 : Nat) (a2 : Nat) (x3 : Int32) (x4 : Int32) (y5 : Int64) (x7 : Int32) (r : Option Value) (S' : zS) : (Int64 × zM) → Prop := (fun e => Rn G mt_X0_bestSite 78 [(0, .ref a0), (1, .ref a1), (2, .ref a2), (3, .int x3), (4, .int x4), (5, .long y5), (7, .int x7), (8, .long e.1)] [] (e.2, L, R, K) r S')
def nb_X0_bestSite_44 (R : zR) (M : zM) (L : zL) (a0 : Nat) (a1 : Nat) (a2 : Nat) (x3 : Int32) (x4 : Int32) (y5 : Int64) (x7 : Int32) (y8 : Int64) (x10 : Int32) : Option ((Int64 × Int32 × zM) ⊕ ((Int64 × zM))) :=
  if (M (R a0 0) 4) ≤ x10 then (
    some (.inr (y8, M))
  ) else (
    zbd2 (f_X7_wanted R M a1 (R a0 0) x10) fun r9 M10 =>
    some (.inl ((y8 + r9.toInt64), (x10 + 1), M10))
  )
set_option maxRecDepth 4000 in
theorem ok_b_X0_bestSite_44 {G : zG} {K : zK} {R : zR} {M : zM} {L : zL} (hW : zWT R K) {a0 : Nat} {a1 : Nat} {a2 : Nat} {x3 : Int32} {x4 : Int32} {y5 : Int64} {x7 : Int32} {y8 : Int64} {x10 : Int32} (k_a0 : K[a0]? = some (0, 4)) (k_a1 : K[a1]? = some (7, 11)) (k_a2 : K[a2]? = some (6, 8)) {r : Option Value} {S' : zS} {x : (Int64 × Int32 × zM) ⊕ ((Int64 × zM))} (h : nb_X0_bestSite_44 R M L a0 a1 a2 x3 x4 y5 x7 y8 x10 = some x) (hk : Sum.elim (P_X0_bestSite_44 G K R L a0 a1 a2 x3 x4 y5 x7 r S') (Q_X0_bestSite_44 G K R L a0 a1 a2 x3 x4 y5 x7 r S') x) : P_X0_bestSite_44 G K R L a0 a1 a2 x3 x4 y5 x7 r S' (y8, x10, M) := by
  show Rn G mt_X0_bestSite 44 [(0, .ref a0), (1, .ref a1), (2, .ref a2), (3, .int x3), (4, .int x4), (5, .long y5), (7, .int x7), (8, .long y8), (10, .int x10)] [] (M, L, R, K) r S'
  unfold nb_X0_bestSite_44 at h
  refine rn_iload 8 rfl zd_X0_bestSite_1.1.2.2.2 ?_
  refine rn_aload_n (q := 0) 0 rfl zd_X0_bestSite_1.2.1.1.1 ?_
  refine rn_getR zf_X0_12 (Or.inl ⟨_, rfl⟩) k_a0 (zx_0_0 hW k_a0) zd_X0_bestSite_1.2.1.1.2 ?_
  refine rn_getI zf_X0_22 (Or.inl rfl) (zw_0_0 hW k_a0) zd_X0_bestSite_1.2.1.2.1 ?_
  rcases zif_e h with ⟨hc8, h⟩ | ⟨hc8, h⟩
  · refine rn_icmp_ge_t (tgt := 78) hc8 zd_X0_bestSite_1.2.1.2.2 rfl ?_
    cases h
    exact rn_sub (ls' := [(0, .ref a0), (1, .ref a1), (2, .ref a2), (3, .int x3), (4, .int x4), (5, .long y5), (7, .int x7), (8, .long y8)]) [0, 1, 2, 3, 4, 5, 6, 7] rfl hk
  · refine rn_icmp_ge_f (tgt := 78) hc8 zd_X0_bestSite_1.2.1.2.2 rfl ?_
    refine rn_lload 7 rfl zd_X0_bestSite_1.2.2.1.1 ?_
    refine rn_aload_n (q := 1) 1 rfl zd_X0_bestSite_1.2.2.1.2 ?_
    refine rn_aload_n (q := 0) 0 rfl zd_X0_bestSite_1.2.2.2.1 ?_
    refine rn_getR zf_X0_12 (Or.inl ⟨_, rfl⟩) k_a0 (zx_0_0 hW k_a0) zd_X0_bestSite_1.2.2.2.2 ?_
    refine rn_iload 8 rfl zd_X0_bestSite_2.1.1.1.1 ?_
    obtain ⟨r9, M10, h11, h⟩ := zbd2_e h
    refine rn_callVi (As := [.ref (R a0 0), .int x10]) (rest := [.long y8]) zl_X0_62 zm_X7_wanted ⟨by decide, by decide⟩ (ci := 7) rfl rfl (by decide) k_a1 rfl rfl (Nat.le_of_ble_eq_true rfl) zd_X0_bestSite_2.1.1.1.2 (ok_X7_wanted hW k_a1 (zw_0_0 hW k_a0) h11) ?_
    refine rn_i2l zd_X0_bestSite_2.1.1.2.1 ?_
    refine rn_ladd zd_X0_bestSite_2.1.1.2.2 ?_
    refine rn_lstore (ls' := [(8, .long (y8 + r9.toInt64)), (0, .ref a0), (1, .ref a1), (2, .ref a2), (3, .int x3), (4, .int x4), (5, .long y5), (7, .int x7), (10, .int x10)]) (by decide) rfl zd_X0_bestSite_2.1.2.1.1 ?_
    refine rn_iinc (v := (x10 + 1)) (ls' := [(10, .int (x10 + 1)), (8, .long (y8 + r9.toInt64)), (0, .ref a0), (1, .ref a1), (2, .ref a2), (3, .int x3), (4, .int x4), (5, .long y5), (7, .int x7)]) 8 rfl rfl (by decide) rfl zd_X0_bestSite_2.1.2.1.2 ?_
    refine rn_goto (tgt := 44) zd_X0_bestSite_2.1.2.2.1 rfl ?_
    cases h
    exact rn_sub (ls' := [(0, .ref a0), (1, .ref a1), (2, .ref a2), (3, .int x3), (4, .int x4), (5, .long y5), (7, .int x7), (8, .long (y8 + r9.toInt64)), (10, .int (x10 + 1))]) [2, 3, 4, 5, 6, 7, 8, 1, 0] rfl hk
def nb_X0_bestSite_11 (R : zR) (M : zM) (L : zL) (a0 : Nat) (a1 : Nat) (a2 : Nat) (x3 : Int32) (x4 : Int32) (y5 : Int64) (x7 : Int32) : Option ((Int32 × Int64 × Int32 × zM × zL) ⊕ ((Int32 × zM × zL))) :=
  if (M a2 4) < x7 then (
    some (.inr (x4, M, L))
  ) else (
    zbd2 (n_X6_copy R M L (R a0 0) a2) fun M2 L3 =>
    zbd2 (n_X6_insert R M2 L3 (R a0 0) x7 x3) fun M5 L6 =>
    zbd (zloop zN (fun v => nb_X0_bestSite_44 R v.2.2 L6 a0 a1 a2 x3 x4 y5 x7 v.1 v.2.1) ((0 : Int64), (0 : Int32), M5)) fun e12 =>
    if 0 ≤ (lg_cmp e12.1 y5) then (
      some (.inl (x4, y5, (x7 + 1), e12.2, L6))
    ) else (
      some (.inl (x7, e12.1, (x7 + 1), e12.2, L6))
    )
  )
set_option maxRecDepth 4000 in
theorem ok_b_X0_bestSite_11 {G : zG} {K : zK} {R : zR} {M : zM} {L : zL} (hW : zWT R K) {a0 : Nat} {a1 : Nat} {a2 : Nat} {x3 : Int32} {x4 : Int32} {y5 : Int64} {x7 : Int32} (k_a0 : K[a0]? = some (0, 4)) (k_a1 : K[a1]? = some (7, 11)) (k_a2 : K[a2]? = some (6, 8)) {r : Option Value} {S' : zS} {x : (Int32 × Int64 × Int32 × zM × zL) ⊕ ((Int32 × zM × zL))} (h : nb_X0_bestSite_11 R M L a0 a1 a2 x3 x4 y5 x7 = some x) (hk : Sum.elim (P_X0_bestSite_11 G K R a0 a1 a2 x3 r S') (Q_X0_bestSite_11 G K R a0 a1 a2 x3 r S') x) : P_X0_bestSite_11 G K R a0 a1 a2 x3 r S' (x4, y5, x7, M, L) := by
  show Rn G mt_X0_bestSite 11 [(0, .ref a0), (1, .ref a1), (2, .ref a2), (3, .int x3), (4, .int x4), (5, .long y5), (7, .int x7)] [] (M, L, R, K) r S'
  unfold nb_X0_bestSite_11 at h
  refine rn_iload 6 rfl zd_X0_bestSite_0.1.2.2.1 ?_
  refine rn_aload_n (q := 2) 2 rfl zd_X0_bestSite_0.1.2.2.2 ?_
  refine rn_getI zf_X0_22 (Or.inl rfl) k_a2 zd_X0_bestSite_0.2.1.1.1 ?_
  rcases zif_e h with ⟨hc1, h⟩ | ⟨hc1, h⟩
  · refine rn_icmp_gt_t (tgt := 100) hc1 zd_X0_bestSite_0.2.1.1.2 rfl ?_
    cases h
    exact rn_sub (ls' := [(4, .int x4)]) [4] rfl hk
  · refine rn_icmp_gt_f (tgt := 100) hc1 zd_X0_bestSite_0.2.1.1.2 rfl ?_
    refine rn_aload_n (q := 0) 0 rfl zd_X0_bestSite_0.2.1.2.1 ?_
    refine rn_getR zf_X0_12 (Or.inl ⟨_, rfl⟩) k_a0 (zx_0_0 hW k_a0) zd_X0_bestSite_0.2.1.2.2 ?_
    refine rn_aload_n (q := 2) 2 rfl zd_X0_bestSite_0.2.2.1.1 ?_
    obtain ⟨M2, L3, h4, h⟩ := zbd2_e h
    refine rn_callVv (As := [.ref a2]) (rest := []) zl_X0_25 zm_X6_copy ⟨by decide, by decide⟩ (ci := 6) rfl rfl (by decide) (zw_0_0 hW k_a0) rfl rfl (Nat.le_of_ble_eq_true rfl) zd_X0_bestSite_0.2.2.1.2 (ok_X6_copy hW (zw_0_0 hW k_a0) k_a2 h4) ?_
    refine rn_aload_n (q := 0) 0 rfl zd_X0_bestSite_0.2.2.2.1 ?_
    refine rn_getR zf_X0_12 (Or.inl ⟨_, rfl⟩) k_a0 (zx_0_0 hW k_a0) zd_X0_bestSite_0.2.2.2.2 ?_
    refine rn_iload 6 rfl zd_X0_bestSite_1.1.1.1.1 ?_
    refine rn_iload_n (q := 3) 3 rfl zd_X0_bestSite_1.1.1.1.2 ?_
    obtain ⟨M5, L6, h7, h⟩ := zbd2_e h
    refine rn_callVv (As := [.int x7, .int x3]) (rest := []) zl_X0_90 zm_X6_insert ⟨by decide, by decide⟩ (ci := 6) rfl rfl (by decide) (zw_0_0 hW k_a0) rfl rfl (Nat.le_of_ble_eq_true rfl) zd_X0_bestSite_1.1.1.2.1 (ok_X6_insert hW (zw_0_0 hW k_a0) h7) ?_
    refine rn_lconst (v := 0) zd_X0_bestSite_1.1.1.2.2 rfl ?_
    refine rn_lstore (ls' := [(8, .long (0 : Int64)), (0, .ref a0), (1, .ref a1), (2, .ref a2), (3, .int x3), (4, .int x4), (5, .long y5), (7, .int x7)]) (by decide) rfl zd_X0_bestSite_1.1.2.1.1 ?_
    refine rn_iconst (v := 0) zd_X0_bestSite_1.1.2.1.2 rfl ?_
    refine rn_istore (ls' := [(10, .int (0 : Int32)), (8, .long (0 : Int64)), (0, .ref a0), (1, .ref a1), (2, .ref a2), (3, .int x3), (4, .int x4), (5, .long y5), (7, .int x7)]) (by decide) rfl zd_X0_bestSite_1.1.2.2.1 ?_
    obtain ⟨e12, he12, h⟩ := zbd_e h
    refine rn_sub (ls' := [(0, .ref a0), (1, .ref a1), (2, .ref a2), (3, .int x3), (4, .int x4), (5, .long y5), (7, .int x7), (8, .long (0 : Int64)), (10, .int (0 : Int32))]) [2, 3, 4, 5, 6, 7, 8, 1, 0] rfl (zloop_ok (P := P_X0_bestSite_44 G K R L6 a0 a1 a2 x3 x4 y5 x7 r S') (Q := Q_X0_bestSite_44 G K R L6 a0 a1 a2 x3 x4 y5 x7 r S') (fun v x hx hq => ok_b_X0_bestSite_44 hW k_a0 k_a1 k_a2 hx hq) _ _ _ he12 ?_)
    show Rn G mt_X0_bestSite 78 [(0, .ref a0), (1, .ref a1), (2, .ref a2), (3, .int x3), (4, .int x4), (5, .long y5), (7, .int x7), (8, .long e12.1)] [] (e12.2, L6, R, K) r S'
    refine rn_lload 7 rfl zd_X0_bestSite_2.1.2.2.2 ?_
    refine rn_lload 5 rfl zd_X0_bestSite_2.2.1.1.1 ?_
    refine rn_lcmp zd_X0_bestSite_2.2.1.1.2 ?_
    rcases zif_e h with ⟨hc13, h⟩ | ⟨hc13, h⟩
    · refine rn_if_ge_t (tgt := 94) hc13 zd_X0_bestSite_2.2.1.2.1 rfl ?_
      refine rn_iinc (v := (x7 + 1)) (ls' := [(7, .int (x7 + 1)), (0, .ref a0), (1, .ref a1), (2, .ref a2), (3, .int x3), (4, .int x4), (5, .long y5), (8, .long e12.1)]) 6 rfl rfl (by decide) rfl zd_X0_bestSite_2.2.2.2.2 ?_
      refine rn_goto (tgt := 11) zd_X0_bestSite_3.1 rfl ?_
      cases h
      exact rn_sub (ls' := [(0, .ref a0), (1, .ref a1), (2, .ref a2), (3, .int x3), (4, .int x4), (5, .long y5), (7, .int (x7 + 1))]) [1, 2, 3, 4, 5, 6, 0] rfl hk
    · refine rn_if_ge_f (tgt := 94) hc13 zd_X0_bestSite_2.2.1.2.1 rfl ?_
      refine rn_lload 7 rfl zd_X0_bestSite_2.2.1.2.2 ?_
      refine rn_lstore (ls' := [(5, .long e12.1), (0, .ref a0), (1, .ref a1), (2, .ref a2), (3, .int x3), (4, .int x4), (7, .int x7), (8, .long e12.1)]) (by decide) rfl zd_X0_bestSite_2.2.2.1.1 ?_
      refine rn_iload 6 rfl zd_X0_bestSite_2.2.2.1.2 ?_
      refine rn_istore (ls' := [(4, .int x7), (5, .long e12.1), (0, .ref a0), (1, .ref a1), (2, .ref a2), (3, .int x3), (7, .int x7), (8, .long e12.1)]) (by decide) rfl zd_X0_bestSite_2.2.2.2.1 ?_
      refine rn_iinc (v := (x7 + 1)) (ls' := [(7, .int (x7 + 1)), (4, .int x7), (5, .long e12.1), (0, .ref a0), (1, .ref a1), (2, .ref a2), (3, .int x3), (8, .long e12.1)]) 6 rfl rfl (by decide) rfl zd_X0_bestSite_2.2.2.2.2 ?_
      refine rn_goto (tgt := 11) zd_X0_bestSite_3.1 rfl ?_
      cases h
      exact rn_sub (ls' := [(0, .ref a0), (1, .ref a1), (2, .ref a2), (3, .int x3), (4, .int x7), (5, .long e12.1), (7, .int (x7 + 1))]) [3, 4, 5, 6, 1, 2, 0] rfl hk
def n_X0_bestSite (R : zR) (M : zM) (L : zL) (a0 : Nat) (a1 : Nat) (a2 : Nat) (x3 : Int32) : Option (Int32 × zM × zL) :=
  zbd (zloop zN (fun v => nb_X0_bestSite_11 R v.2.2.2.1 v.2.2.2.2 a0 a1 a2 x3 v.1 v.2.1 v.2.2.1) ((0 : Int32), (9223372036854775807 : Int64), (0 : Int32), M, L)) fun e14 =>
  some (e14.1, e14.2.1, e14.2.2)
set_option maxRecDepth 4000 in
theorem ok_X0_bestSite {G : zG} {K : zK} {R : zR} {M : zM} {L : zL} (hW : zWT R K) {a0 : Nat} {a1 : Nat} {a2 : Nat} {x3 : Int32} (k_a0 : K[a0]? = some (0, 4)) (k_a1 : K[a1]? = some (7, 11)) (k_a2 : K[a2]? = some (6, 8)) {r' : Int32} {M' : zM} {L' : zL} (h : n_X0_bestSite R M L a0 a1 a2 x3 = some (r', M', L')) : Rm G mt_X0_bestSite [.ref a0, .ref a1, .ref a2, .int x3] (M, L, R, K) (some (.int r')) (M', L', R, K) := by
  refine rm_rn rfl rfl (Nat.le_of_ble_eq_true rfl) ?_
  show Rn G mt_X0_bestSite 0 [(0, .ref a0), (1, .ref a1), (2, .ref a2), (3, .int x3)] [] (M, L, R, K) (some (.int r')) (M', L', R, K)
  unfold n_X0_bestSite at h
  refine rn_iconst (v := 0) zd_X0_bestSite_0.1.1.1.1 rfl ?_
  refine rn_istore (ls' := [(4, .int (0 : Int32)), (0, .ref a0), (1, .ref a1), (2, .ref a2), (3, .int x3)]) (by decide) rfl zd_X0_bestSite_0.1.1.1.2 ?_
  refine rn_ldc2 (v := 9223372036854775807) zk_X0_88 zd_X0_bestSite_0.1.1.2.1 ?_
  refine rn_lstore (ls' := [(5, .long (9223372036854775807 : Int64)), (4, .int (0 : Int32)), (0, .ref a0), (1, .ref a1), (2, .ref a2), (3, .int x3)]) (by decide) rfl zd_X0_bestSite_0.1.1.2.2 ?_
  refine rn_iconst (v := 0) zd_X0_bestSite_0.1.2.1.1 rfl ?_
  refine rn_istore (ls' := [(7, .int (0 : Int32)), (5, .long (9223372036854775807 : Int64)), (4, .int (0 : Int32)), (0, .ref a0), (1, .ref a1), (2, .ref a2), (3, .int x3)]) (by decide) rfl zd_X0_bestSite_0.1.2.1.2 ?_
  obtain ⟨e14, he14, h⟩ := zbd_e h
  refine rn_sub (ls' := [(0, .ref a0), (1, .ref a1), (2, .ref a2), (3, .int x3), (4, .int (0 : Int32)), (5, .long (9223372036854775807 : Int64)), (7, .int (0 : Int32))]) [3, 4, 5, 6, 2, 1, 0] rfl (zloop_ok (P := P_X0_bestSite_11 G K R a0 a1 a2 x3 (some (.int r')) (M', L', R, K)) (Q := Q_X0_bestSite_11 G K R a0 a1 a2 x3 (some (.int r')) (M', L', R, K)) (fun v x hx hq => ok_b_X0_bestSite_11 hW k_a0 k_a1 k_a2 hx hq) _ _ _ he14 ?_)
  show Rn G mt_X0_bestSite 100 [(4, .int e14.1)] [] (e14.2.1, e14.2.2, R, K) (some (.int r')) (M', L', R, K)
  refine rn_iload 0 rfl zd_X0_bestSite_3.2.1 ?_
  cases h
  exact rn_iret zd_X0_bestSite_3.2.2 rfl
abbrev P_X1_isSame_14 (G : zG) (K : zK) (R : zR) (M : zM) (L : zL) (a0 : Nat) (x3 : Int32) (x4 : Int32) (r : Option Value) (S' : zS) (v : Int32) : Prop := Rn G mt_X1_isSame 14 [(0, .ref a0), (3, .int x3), (4, .int x4), (5, .int v)] [] (M, L, R, K) r S'
abbrev Q_X1_isSame_14 (G : zG) (K : zK) (R : zR) (M : zM) (L : zL) (a0 : Nat) (x3 : Int32) (x4 : Int32) (r : Option Value) (S' : zS) : (Unit) ⊕ (Unit) → Prop := (Sum.elim (fun e => Rn G mt_X1_isSame 55 [] [] (M, L, R, K) r S') (fun e => Rn G mt_X1_isSame 63 [] [] (M, L, R, K) r S'))
def b_X1_isSame_14 (R : zR) (M : zM) (a0 : Nat) (x3 : Int32) (x4 : Int32) (x5 : Int32) : Option ((Int32) ⊕ ((Unit) ⊕ (Unit))) :=
  if (M (R a0 0) 4) < x5 then (
    some (.inr (.inr ()))
  ) else (
    if (11 : Int32) ≤ x5 then (
      some (.inr (.inr ()))
    ) else (
      zck (zin (x3 + x5) 3311) <|
      zck (zin (x4 + x5) 3311) <|
      if (M (R a0 1) (ztn (x3 + x5))) = (M (R a0 1) (ztn (x4 + x5))) then (
        some (.inl (x5 + 1))
      ) else (
        some (.inr (.inl ()))
      )
    )
  )
set_option maxRecDepth 4000 in
theorem ok_b_X1_isSame_14 {G : zG} {K : zK} {R : zR} {M : zM} {L : zL} (hW : zWT R K) {a0 : Nat} {x3 : Int32} {x4 : Int32} {x5 : Int32} (k_a0 : K[a0]? = some (1, 2)) {r : Option Value} {S' : zS} {x : (Int32) ⊕ ((Unit) ⊕ (Unit))} (h : b_X1_isSame_14 R M a0 x3 x4 x5 = some x) (hk : Sum.elim (P_X1_isSame_14 G K R M L a0 x3 x4 r S') (Q_X1_isSame_14 G K R M L a0 x3 x4 r S') x) : P_X1_isSame_14 G K R M L a0 x3 x4 r S' x5 := by
  show Rn G mt_X1_isSame 14 [(0, .ref a0), (3, .int x3), (4, .int x4), (5, .int x5)] [] (M, L, R, K) r S'
  unfold b_X1_isSame_14 at h
  refine rn_iload 3 rfl zd_X1_isSame_0.2.1.2.1 ?_
  refine rn_aload_n (q := 0) 0 rfl zd_X1_isSame_0.2.1.2.2 ?_
  refine rn_getR zf_X1_12 (Or.inl ⟨_, rfl⟩) k_a0 (zx_1_0 hW k_a0) zd_X1_isSame_0.2.2.1.1 ?_
  refine rn_getI zf_X1_54 (Or.inl rfl) (zw_1_0 hW k_a0) zd_X1_isSame_0.2.2.1.2 ?_
  rcases zif_e h with ⟨hc1, h⟩ | ⟨hc1, h⟩
  · refine rn_icmp_gt_t (tgt := 63) hc1 zd_X1_isSame_0.2.2.2.1 rfl ?_
    cases h
    exact rn_sub (ls' := []) [] rfl hk
  · refine rn_icmp_gt_f (tgt := 63) hc1 zd_X1_isSame_0.2.2.2.1 rfl ?_
    refine rn_iload 3 rfl zd_X1_isSame_0.2.2.2.2 ?_
    refine rn_bipush (v := 11) zd_X1_isSame_1.1.1.1.1 rfl ?_
    rcases zif_e h with ⟨hc2, h⟩ | ⟨hc2, h⟩
    · refine rn_icmp_ge_t (tgt := 63) hc2 zd_X1_isSame_1.1.1.1.2 rfl ?_
      cases h
      exact rn_sub (ls' := []) [] rfl hk
    · refine rn_icmp_ge_f (tgt := 63) hc2 zd_X1_isSame_1.1.1.1.2 rfl ?_
      refine rn_aload_n (q := 0) 0 rfl zd_X1_isSame_1.1.1.2.1 ?_
      refine rn_getR zf_X1_18 (Or.inr ⟨_, rfl⟩) k_a0 (zx_1_1 hW k_a0) zd_X1_isSame_1.1.1.2.2 ?_
      refine rn_iload_n (q := 3) 1 rfl zd_X1_isSame_1.1.2.1.1 ?_
      refine rn_iload 3 rfl zd_X1_isSame_1.1.2.1.2 ?_
      refine rn_iadd zd_X1_isSame_1.1.2.2.1 ?_
      obtain ⟨hc3, h⟩ := zck_e h
      refine rn_iald (zw_1_1 hW k_a0) hc3 zd_X1_isSame_1.1.2.2.2 ?_
      refine rn_aload_n (q := 0) 0 rfl zd_X1_isSame_1.2.1.1.1 ?_
      refine rn_getR zf_X1_18 (Or.inr ⟨_, rfl⟩) k_a0 (zx_1_1 hW k_a0) zd_X1_isSame_1.2.1.1.2 ?_
      refine rn_iload 2 rfl zd_X1_isSame_1.2.1.2.1 ?_
      refine rn_iload 3 rfl zd_X1_isSame_1.2.1.2.2 ?_
      refine rn_iadd zd_X1_isSame_1.2.2.1.1 ?_
      obtain ⟨hc4, h⟩ := zck_e h
      refine rn_iald (zw_1_1 hW k_a0) hc4 zd_X1_isSame_1.2.2.1.2 ?_
      rcases zif_e h with ⟨hc5, h⟩ | ⟨hc5, h⟩
      · refine rn_icmp_eq_t (tgt := 57) hc5 zd_X1_isSame_1.2.2.2.1 rfl ?_
        refine rn_iinc (v := (x5 + 1)) (ls' := [(5, .int (x5 + 1)), (0, .ref a0), (3, .int x3), (4, .int x4)]) 3 rfl rfl (by decide) rfl zd_X1_isSame_2.1.2 ?_
        refine rn_goto (tgt := 14) zd_X1_isSame_2.2.1 rfl ?_
        cases h
        exact rn_sub (ls' := [(0, .ref a0), (3, .int x3), (4, .int x4), (5, .int (x5 + 1))]) [1, 2, 3, 0] rfl hk
      · refine rn_icmp_eq_f (tgt := 57) hc5 zd_X1_isSame_1.2.2.2.1 rfl ?_
        cases h
        exact rn_sub (ls' := []) [] rfl hk
def f_X1_isSame (R : zR) (M : zM) (a0 : Nat) (x1 : Int32) (x2 : Int32) : Option (Int32) :=
  zbd (zloop zN (fun v => b_X1_isSame_14 R M a0 (x1 * (11 : Int32)) (x2 * (11 : Int32)) v) (0 : Int32)) fun e6 =>
  Sum.elim (fun e7 =>
    some (0 : Int32)
  ) (fun e8 =>
    some (1 : Int32)
  ) e6
set_option maxRecDepth 4000 in
theorem ok_X1_isSame {G : zG} {K : zK} {R : zR} {M : zM} {L : zL} (hW : zWT R K) {a0 : Nat} {x1 : Int32} {x2 : Int32} (k_a0 : K[a0]? = some (1, 2)) {r' : Int32} (h : f_X1_isSame R M a0 x1 x2 = some r') : Rm G mt_X1_isSame [.ref a0, .int x1, .int x2] (M, L, R, K) (some (.int r')) (M, L, R, K) := by
  refine rm_rn rfl rfl (Nat.le_of_ble_eq_true rfl) ?_
  show Rn G mt_X1_isSame 0 [(0, .ref a0), (1, .int x1), (2, .int x2)] [] (M, L, R, K) (some (.int r')) (M, L, R, K)
  unfold f_X1_isSame at h
  refine rn_iload_n (q := 1) 1 rfl zd_X1_isSame_0.1.1.1.1 ?_
  refine rn_bipush (v := 11) zd_X1_isSame_0.1.1.1.2 rfl ?_
  refine rn_imul zd_X1_isSame_0.1.1.2.1 ?_
  refine rn_istore_n (q := 3) (ls' := [(3, .int (x1 * (11 : Int32))), (0, .ref a0), (1, .int x1), (2, .int x2)]) (by decide) rfl zd_X1_isSame_0.1.1.2.2 ?_
  refine rn_iload_n (q := 2) 3 rfl zd_X1_isSame_0.1.2.1.1 ?_
  refine rn_bipush (v := 11) zd_X1_isSame_0.1.2.1.2 rfl ?_
  refine rn_imul zd_X1_isSame_0.1.2.2.1 ?_
  refine rn_istore (ls' := [(4, .int (x2 * (11 : Int32))), (3, .int (x1 * (11 : Int32))), (0, .ref a0), (1, .int x1), (2, .int x2)]) (by decide) rfl zd_X1_isSame_0.1.2.2.2 ?_
  refine rn_iconst (v := 0) zd_X1_isSame_0.2.1.1.1 rfl ?_
  refine rn_istore (ls' := [(5, .int (0 : Int32)), (4, .int (x2 * (11 : Int32))), (3, .int (x1 * (11 : Int32))), (0, .ref a0), (1, .int x1), (2, .int x2)]) (by decide) rfl zd_X1_isSame_0.2.1.1.2 ?_
  obtain ⟨e6, he6, h⟩ := zbd_e h
  refine rn_sub (ls' := [(0, .ref a0), (3, .int (x1 * (11 : Int32))), (4, .int (x2 * (11 : Int32))), (5, .int (0 : Int32))]) [3, 2, 1, 0] rfl (zloop_ok (P := P_X1_isSame_14 G K R M L a0 (x1 * (11 : Int32)) (x2 * (11 : Int32)) (some (.int r')) (M, L, R, K)) (Q := Q_X1_isSame_14 G K R M L a0 (x1 * (11 : Int32)) (x2 * (11 : Int32)) (some (.int r')) (M, L, R, K)) (fun v x hx hq => ok_b_X1_isSame_14 hW k_a0 hx hq) _ _ _ he6 ?_)
  rcases e6 with e7 | e8
  · rw [Sum.elim_inl] at h
    show Rn G mt_X1_isSame 55 [] [] (M, L, R, K) (some (.int r')) (M, L, R, K)
    refine rn_iconst (v := 0) zd_X1_isSame_1.2.2.2.2 rfl ?_
    cases h
    exact rn_zret zd_X1_isSame_2.1.1 rfl rfl
  · rw [Sum.elim_inr] at h
    show Rn G mt_X1_isSame 63 [] [] (M, L, R, K) (some (.int r')) (M, L, R, K)
    refine rn_iconst (v := 1) zd_X1_isSame_2.2.2.1 rfl ?_
    cases h
    exact rn_zret zd_X1_isSame_2.2.2.2 rfl rfl
abbrev P_X1_walk_10 (G : zG) (K : zK) (R : zR) (a0 : Nat) (a1 : Nat) (r : Option Value) (S' : zS) (v : Int32 × zM × zL) : Prop := Rn G mt_X1_walk 10 [(0, .ref a0), (1, .ref a1), (3, .int v.1)] [] (v.2.1, v.2.2, R, K) r S'
abbrev Q_X1_walk_10 (G : zG) (K : zK) (R : zR) (a0 : Nat) (a1 : Nat) (r : Option Value) (S' : zS) : (zM × zL) → Prop := (fun e => Rn G mt_X1_walk 105 [] [] (e.1, e.2, R, K) r S')
abbrev P_X1_walk_40 (G : zG) (K : zK) (R : zR) (L : zL) (a0 : Nat) (a1 : Nat) (x3 : Int32) (x4 : Int32) (r : Option Value) (S' : zS) (v : Int32 × zM) : Prop := Rn G mt_X1_walk 40 [(0, .ref a0), (1, .ref a1), (3, .int x3), (4, .int x4), (5, .int v.1)] [] (v.2, L, R, K) r S'
abbrev Q_X1_walk_40 (G : zG) (K : zK) (R : zR) (L : zL) (a0 : Nat) (a1 : Nat) (x3 : Int32) (x4 : Int32) (r : Option Value) (S' : zS) : (zM) → Prop := (fun e => Rn G mt_X1_walk 87 [(0, .ref a0), (1, .ref a1), (3, .int x3)] [] (e, L, R, K) r S')
def nb_X1_walk_40 (R : zR) (M : zM) (L : zL) (a0 : Nat) (a1 : Nat) (x3 : Int32) (x4 : Int32) (x5 : Int32) : Option ((Int32 × zM) ⊕ ((zM))) :=
  if (10 : Int32) ≤ x5 then (
    some (.inr M)
  ) else (
    zbd (f_X6_has M (R a0 0) x5) fun r8 =>
    if r8 = 0 then (
      some (.inr M)
    ) else (
      zck (zin x5 10) <|
      zck (zin ((x4 + (1 : Int32)) + x5) 3311) <|
      zlt (zup M (R a0 1) (ztn ((x4 + (1 : Int32)) + x5)) (M (R (R a0 0) 0) (ztn x5))) fun M13 =>
      some (.inl ((x5 + 1), M13))
    )
  )
set_option maxRecDepth 4000 in
theorem ok_b_X1_walk_40 {G : zG} {K : zK} {R : zR} {M : zM} {L : zL} (hW : zWT R K) {a0 : Nat} {a1 : Nat} {x3 : Int32} {x4 : Int32} {x5 : Int32} (k_a0 : K[a0]? = some (1, 2)) (k_a1 : K[a1]? = some (7, 11)) {r : Option Value} {S' : zS} {x : (Int32 × zM) ⊕ ((zM))} (h : nb_X1_walk_40 R M L a0 a1 x3 x4 x5 = some x) (hk : Sum.elim (P_X1_walk_40 G K R L a0 a1 x3 x4 r S') (Q_X1_walk_40 G K R L a0 a1 x3 x4 r S') x) : P_X1_walk_40 G K R L a0 a1 x3 x4 r S' (x5, M) := by
  show Rn G mt_X1_walk 40 [(0, .ref a0), (1, .ref a1), (3, .int x3), (4, .int x4), (5, .int x5)] [] (M, L, R, K) r S'
  unfold nb_X1_walk_40 at h
  refine rn_iload 4 rfl zd_X1_walk_1.1.2.2.1 ?_
  refine rn_bipush (v := 10) zd_X1_walk_1.1.2.2.2 rfl ?_
  rcases zif_e h with ⟨hc7, h⟩ | ⟨hc7, h⟩
  · refine rn_icmp_ge_t (tgt := 87) hc7 zd_X1_walk_1.2.1.1.1 rfl ?_
    cases h
    exact rn_sub (ls' := [(0, .ref a0), (1, .ref a1), (3, .int x3)]) [0, 1, 2] rfl hk
  · refine rn_icmp_ge_f (tgt := 87) hc7 zd_X1_walk_1.2.1.1.1 rfl ?_
    refine rn_aload_n (q := 0) 0 rfl zd_X1_walk_1.2.1.1.2 ?_
    refine rn_getR zf_X1_12 (Or.inl ⟨_, rfl⟩) k_a0 (zx_1_0 hW k_a0) zd_X1_walk_1.2.1.2.1 ?_
    refine rn_iload 4 rfl zd_X1_walk_1.2.1.2.2 ?_
    obtain ⟨r8, h9, h⟩ := zbd_e h
    refine rn_callVi (As := [.int x5]) (rest := []) zl_X1_38 zm_X6_has ⟨by decide, by decide⟩ (ci := 6) rfl rfl (by decide) (zw_1_0 hW k_a0) rfl rfl (Nat.le_of_ble_eq_true rfl) zd_X1_walk_1.2.2.1.1 (ok_X6_has hW (zw_1_0 hW k_a0) h9) ?_
    rcases zif_e h with ⟨hc10, h⟩ | ⟨hc10, h⟩
    · refine rn_if_eq_t (tgt := 87) hc10 zd_X1_walk_1.2.2.1.2 rfl ?_
      cases h
      exact rn_sub (ls' := [(0, .ref a0), (1, .ref a1), (3, .int x3)]) [0, 1, 2] rfl hk
    · refine rn_if_eq_f (tgt := 87) hc10 zd_X1_walk_1.2.2.1.2 rfl ?_
      refine rn_aload_n (q := 0) 0 rfl zd_X1_walk_1.2.2.2.1 ?_
      refine rn_getR zf_X1_18 (Or.inr ⟨_, rfl⟩) k_a0 (zx_1_1 hW k_a0) zd_X1_walk_1.2.2.2.2 ?_
      refine rn_iload 3 rfl zd_X1_walk_2.1.1.1.1 ?_
      refine rn_iconst (v := 1) zd_X1_walk_2.1.1.1.2 rfl ?_
      refine rn_iadd zd_X1_walk_2.1.1.2.1 ?_
      refine rn_iload 4 rfl zd_X1_walk_2.1.1.2.2 ?_
      refine rn_iadd zd_X1_walk_2.1.2.1.1 ?_
      refine rn_aload_n (q := 0) 0 rfl zd_X1_walk_2.1.2.1.2 ?_
      refine rn_getR zf_X1_12 (Or.inl ⟨_, rfl⟩) k_a0 (zx_1_0 hW k_a0) zd_X1_walk_2.1.2.2.1 ?_
      refine rn_getR zf_X1_42 (Or.inr ⟨_, rfl⟩) (zw_1_0 hW k_a0) (zx_6_0 hW (zw_1_0 hW k_a0)) zd_X1_walk_2.1.2.2.2 ?_
      refine rn_iload 4 rfl zd_X1_walk_2.2.1.1.1 ?_
      obtain ⟨hc11, h⟩ := zck_e h
      refine rn_iald (zw_6_0 hW (zw_1_0 hW k_a0)) hc11 zd_X1_walk_2.2.1.1.2 ?_
      obtain ⟨hc12, h⟩ := zck_e h
      obtain ⟨M13, hM13, h⟩ := zlt_e h
      refine rn_iast hM13 (zw_1_1 hW k_a0) hc12 zd_X1_walk_2.2.1.2.1 ?_
      refine rn_iinc (v := (x5 + 1)) (ls' := [(5, .int (x5 + 1)), (0, .ref a0), (1, .ref a1), (3, .int x3), (4, .int x4)]) 4 rfl rfl (by decide) rfl zd_X1_walk_2.2.1.2.2 ?_
      refine rn_goto (tgt := 40) zd_X1_walk_2.2.2.1.1 rfl ?_
      cases h
      exact rn_sub (ls' := [(0, .ref a0), (1, .ref a1), (3, .int x3), (4, .int x4), (5, .int (x5 + 1))]) [1, 2, 3, 4, 0] rfl hk
def nb_X1_walk_10 (R : zR) (M : zM) (L : zL) (a0 : Nat) (a1 : Nat) (x3 : Int32) : Option ((Int32 × zM × zL) ⊕ ((zM × zL))) :=
  if (300 : Int32) < x3 then (
    some (.inr (M, L))
  ) else (
    zck (zin (x3 * (11 : Int32)) 3311) <|
    zlt (zup M (R a0 1) (ztn (x3 * (11 : Int32))) (M (R a0 0) 5)) fun M6 =>
    zbd (zloop zN (fun v => nb_X1_walk_40 R v.2 L a0 a1 x3 (x3 * (11 : Int32)) v.1) ((0 : Int32), M6)) fun e14 =>
    zbd2 (n_X7_evening R e14 L a1 (R a0 0) (e14 a1 8)) fun M15 L16 =>
    some (.inl ((x3 + 1), M15, L16))
  )
set_option maxRecDepth 4000 in
theorem ok_b_X1_walk_10 {G : zG} {K : zK} {R : zR} {M : zM} {L : zL} (hW : zWT R K) {a0 : Nat} {a1 : Nat} {x3 : Int32} (k_a0 : K[a0]? = some (1, 2)) (k_a1 : K[a1]? = some (7, 11)) {r : Option Value} {S' : zS} {x : (Int32 × zM × zL) ⊕ ((zM × zL))} (h : nb_X1_walk_10 R M L a0 a1 x3 = some x) (hk : Sum.elim (P_X1_walk_10 G K R a0 a1 r S') (Q_X1_walk_10 G K R a0 a1 r S') x) : P_X1_walk_10 G K R a0 a1 r S' (x3, M, L) := by
  show Rn G mt_X1_walk 10 [(0, .ref a0), (1, .ref a1), (3, .int x3)] [] (M, L, R, K) r S'
  unfold nb_X1_walk_10 at h
  refine rn_iload_n (q := 3) 2 rfl zd_X1_walk_0.1.2.2.1 ?_
  refine rn_sipush (v := 300) zd_X1_walk_0.1.2.2.2 rfl ?_
  rcases zif_e h with ⟨hc4, h⟩ | ⟨hc4, h⟩
  · refine rn_icmp_gt_t (tgt := 105) hc4 zd_X1_walk_0.2.1.1.1 rfl ?_
    cases h
    exact rn_sub (ls' := []) [] rfl hk
  · refine rn_icmp_gt_f (tgt := 105) hc4 zd_X1_walk_0.2.1.1.1 rfl ?_
    refine rn_iload_n (q := 3) 2 rfl zd_X1_walk_0.2.1.1.2 ?_
    refine rn_bipush (v := 11) zd_X1_walk_0.2.1.2.1 rfl ?_
    refine rn_imul zd_X1_walk_0.2.1.2.2 ?_
    refine rn_istore (ls' := [(4, .int (x3 * (11 : Int32))), (0, .ref a0), (1, .ref a1), (3, .int x3)]) (by decide) rfl zd_X1_walk_0.2.2.1.1 ?_
    refine rn_aload_n (q := 0) 1 rfl zd_X1_walk_0.2.2.1.2 ?_
    refine rn_getR zf_X1_18 (Or.inr ⟨_, rfl⟩) k_a0 (zx_1_1 hW k_a0) zd_X1_walk_0.2.2.2.1 ?_
    refine rn_iload 0 rfl zd_X1_walk_0.2.2.2.2 ?_
    refine rn_aload_n (q := 0) 1 rfl zd_X1_walk_1.1.1.1.1 ?_
    refine rn_getR zf_X1_12 (Or.inl ⟨_, rfl⟩) k_a0 (zx_1_0 hW k_a0) zd_X1_walk_1.1.1.1.2 ?_
    refine rn_getI zf_X1_34 (Or.inl rfl) (zw_1_0 hW k_a0) zd_X1_walk_1.1.1.2.1 ?_
    obtain ⟨hc5, h⟩ := zck_e h
    obtain ⟨M6, hM6, h⟩ := zlt_e h
    refine rn_iast hM6 (zw_1_1 hW k_a0) hc5 zd_X1_walk_1.1.1.2.2 ?_
    refine rn_iconst (v := 0) zd_X1_walk_1.1.2.1.1 rfl ?_
    refine rn_istore (ls' := [(5, .int (0 : Int32)), (4, .int (x3 * (11 : Int32))), (0, .ref a0), (1, .ref a1), (3, .int x3)]) (by decide) rfl zd_X1_walk_1.1.2.1.2 ?_
    obtain ⟨e14, he14, h⟩ := zbd_e h
    refine rn_sub (ls' := [(0, .ref a0), (1, .ref a1), (3, .int x3), (4, .int (x3 * (11 : Int32))), (5, .int (0 : Int32))]) [2, 3, 4, 1, 0] rfl (zloop_ok (P := P_X1_walk_40 G K R L a0 a1 x3 (x3 * (11 : Int32)) r S') (Q := Q_X1_walk_40 G K R L a0 a1 x3 (x3 * (11 : Int32)) r S') (fun v x hx hq => ok_b_X1_walk_40 hW k_a0 k_a1 hx hq) _ _ _ he14 ?_)
    show Rn G mt_X1_walk 87 [(0, .ref a0), (1, .ref a1), (3, .int x3)] [] (e14, L, R, K) r S'
    refine rn_aload_n (q := 1) 1 rfl zd_X1_walk_2.2.2.1.2 ?_
    refine rn_aload_n (q := 0) 0 rfl zd_X1_walk_2.2.2.2.1 ?_
    refine rn_getR zf_X1_12 (Or.inl ⟨_, rfl⟩) k_a0 (zx_1_0 hW k_a0) zd_X1_walk_2.2.2.2.2 ?_
    refine rn_aload_n (q := 1) 1 rfl zd_X1_walk_3.1.1 ?_
    refine rn_getI zf_X1_45 (Or.inl rfl) k_a1 zd_X1_walk_3.1.2.1 ?_
    obtain ⟨M15, L16, h17, h⟩ := zbd2_e h
    refine rn_callVv (As := [.ref (R a0 0), .int (e14 a1 8)]) (rest := []) zl_X1_50 zm_X7_evening ⟨by decide, by decide⟩ (ci := 7) rfl rfl (by decide) k_a1 rfl rfl (Nat.le_of_ble_eq_true rfl) zd_X1_walk_3.1.2.2 (ok_X7_evening hW k_a1 (zw_1_0 hW k_a0) h17) ?_
    refine rn_iinc (v := (x3 + 1)) (ls' := [(3, .int (x3 + 1)), (0, .ref a0), (1, .ref a1)]) 2 rfl rfl (by decide) rfl zd_X1_walk_3.2.1 ?_
    refine rn_goto (tgt := 10) zd_X1_walk_3.2.2.1 rfl ?_
    cases h
    exact rn_sub (ls' := [(0, .ref a0), (1, .ref a1), (3, .int (x3 + 1))]) [1, 2, 0] rfl hk
def n_X1_walk (R : zR) (M : zM) (L : zL) (a0 : Nat) (a1 : Nat) (a2 : Nat) : Option (zM × zL) :=
  zbd2 (n_X6_copy R M L (R a0 0) a2) fun M1 L2 =>
  zbd (zloop zN (fun v => nb_X1_walk_10 R v.2.1 v.2.2 a0 a1 v.1) ((0 : Int32), M1, L2)) fun e18 =>
  some (e18.1, e18.2)
set_option maxRecDepth 4000 in
theorem ok_X1_walk {G : zG} {K : zK} {R : zR} {M : zM} {L : zL} (hW : zWT R K) {a0 : Nat} {a1 : Nat} {a2 : Nat} (k_a0 : K[a0]? = some (1, 2)) (k_a1 : K[a1]? = some (7, 11)) (k_a2 : K[a2]? = some (6, 8)) {M' : zM} {L' : zL} (h : n_X1_walk R M L a0 a1 a2 = some (M', L')) : Rm G mt_X1_walk [.ref a0, .ref a1, .ref a2] (M, L, R, K) none (M', L', R, K) := by
  refine rm_rn rfl rfl (Nat.le_of_ble_eq_true rfl) ?_
  show Rn G mt_X1_walk 0 [(0, .ref a0), (1, .ref a1), (2, .ref a2)] [] (M, L, R, K) none (M', L', R, K)
  unfold n_X1_walk at h
  refine rn_aload_n (q := 0) 0 rfl zd_X1_walk_0.1.1.1.1 ?_
  refine rn_getR zf_X1_12 (Or.inl ⟨_, rfl⟩) k_a0 (zx_1_0 hW k_a0) zd_X1_walk_0.1.1.1.2 ?_
  refine rn_aload_n (q := 2) 2 rfl zd_X1_walk_0.1.1.2.1 ?_
  obtain ⟨M1, L2, h3, h⟩ := zbd2_e h
  refine rn_callVv (As := [.ref a2]) (rest := []) zl_X1_30 zm_X6_copy ⟨by decide, by decide⟩ (ci := 6) rfl rfl (by decide) (zw_1_0 hW k_a0) rfl rfl (Nat.le_of_ble_eq_true rfl) zd_X1_walk_0.1.1.2.2 (ok_X6_copy hW (zw_1_0 hW k_a0) k_a2 h3) ?_
  refine rn_iconst (v := 0) zd_X1_walk_0.1.2.1.1 rfl ?_
  refine rn_istore_n (q := 3) (ls' := [(3, .int (0 : Int32)), (0, .ref a0), (1, .ref a1), (2, .ref a2)]) (by decide) rfl zd_X1_walk_0.1.2.1.2 ?_
  obtain ⟨e18, he18, h⟩ := zbd_e h
  refine rn_sub (ls' := [(0, .ref a0), (1, .ref a1), (3, .int (0 : Int32))]) [1, 2, 0] rfl (zloop_ok (P := P_X1_walk_10 G K R a0 a1 none (M', L', R, K)) (Q := Q_X1_walk_10 G K R a0 a1 none (M', L', R, K)) (fun v x hx hq => ok_b_X1_walk_10 hW k_a0 k_a1 hx hq) _ _ _ he18 ?_)
  show Rn G mt_X1_walk 105 [] [] (e18.1, e18.2, R, K) none (M', L', R, K)
  cases h
  exact rn_vret zd_X1_walk_3.2.2.2 rfl
abbrev P_X1_period_9 (G : zG) (K : zK) (R : zR) (M : zM) (L : zL) (a0 : Nat) (x3 : Int32) (r : Option Value) (S' : zS) (v : Int32) : Prop := Rn G mt_X1_period 9 [(0, .ref a0), (3, .int x3), (4, .int v)] [] (M, L, R, K) r S'
abbrev Q_X1_period_9 (G : zG) (K : zK) (R : zR) (M : zM) (L : zL) (a0 : Nat) (x3 : Int32) (r : Option Value) (S' : zS) : (Int32 × Int32) ⊕ (Unit) → Prop := (Sum.elim (fun e => Rn G mt_X1_period 45 [(3, .int x3), (4, .int e.1), (5, .int e.2)] [] (M, L, R, K) r S') (fun e => Rn G mt_X1_period 69 [] [] (M, L, R, K) r S'))
abbrev P_X1_period_20 (G : zG) (K : zK) (R : zR) (M : zM) (L : zL) (a0 : Nat) (x3 : Int32) (x4 : Int32) (r : Option Value) (S' : zS) (v : Int32) : Prop := Rn G mt_X1_period 20 [(0, .ref a0), (3, .int x3), (4, .int x4), (5, .int v)] [] (M, L, R, K) r S'
abbrev Q_X1_period_20 (G : zG) (K : zK) (R : zR) (M : zM) (L : zL) (a0 : Nat) (x3 : Int32) (x4 : Int32) (r : Option Value) (S' : zS) : (Int32) ⊕ (Unit) → Prop := (Sum.elim (fun e => Rn G mt_X1_period 45 [(3, .int x3), (4, .int x4), (5, .int e)] [] (M, L, R, K) r S') (fun e => Rn G mt_X1_period 63 [(0, .ref a0), (3, .int x3), (4, .int x4)] [] (M, L, R, K) r S'))
def nb_X1_period_20 (R : zR) (M : zM) (L : zL) (a0 : Nat) (x3 : Int32) (x4 : Int32) (x5 : Int32) : Option ((Int32) ⊕ ((Int32) ⊕ (Unit))) :=
  if (300 : Int32) < (x5 + x4) then (
    some (.inr (.inr ()))
  ) else (
    zbd (f_X1_isSame R M a0 x5 (x5 + x4)) fun r6 =>
    if r6 = 0 then (
      some (.inl (x5 + 1))
    ) else (
      some (.inr (.inl x5))
    )
  )
set_option maxRecDepth 4000 in
theorem ok_b_X1_period_20 {G : zG} {K : zK} {R : zR} {M : zM} {L : zL} (hW : zWT R K) {a0 : Nat} {x3 : Int32} {x4 : Int32} {x5 : Int32} (k_a0 : K[a0]? = some (1, 2)) {r : Option Value} {S' : zS} {x : (Int32) ⊕ ((Int32) ⊕ (Unit))} (h : nb_X1_period_20 R M L a0 x3 x4 x5 = some x) (hk : Sum.elim (P_X1_period_20 G K R M L a0 x3 x4 r S') (Q_X1_period_20 G K R M L a0 x3 x4 r S') x) : P_X1_period_20 G K R M L a0 x3 x4 r S' x5 := by
  show Rn G mt_X1_period 20 [(0, .ref a0), (3, .int x3), (4, .int x4), (5, .int x5)] [] (M, L, R, K) r S'
  unfold nb_X1_period_20 at h
  refine rn_iload 3 rfl zd_X1_period_0.2.1.2.2 ?_
  refine rn_iload 2 rfl zd_X1_period_0.2.2.1.1 ?_
  refine rn_iadd zd_X1_period_0.2.2.1.2 ?_
  refine rn_sipush (v := 300) zd_X1_period_0.2.2.2.1 rfl ?_
  rcases zif_e h with ⟨hc5, h⟩ | ⟨hc5, h⟩
  · refine rn_icmp_gt_t (tgt := 63) hc5 zd_X1_period_0.2.2.2.2 rfl ?_
    cases h
    exact rn_sub (ls' := [(0, .ref a0), (3, .int x3), (4, .int x4)]) [0, 1, 2] rfl hk
  · refine rn_icmp_gt_f (tgt := 63) hc5 zd_X1_period_0.2.2.2.2 rfl ?_
    refine rn_aload_n (q := 0) 0 rfl zd_X1_period_1.1.1.1.1 ?_
    refine rn_iload 3 rfl zd_X1_period_1.1.1.1.2 ?_
    refine rn_iload 3 rfl zd_X1_period_1.1.1.2.1 ?_
    refine rn_iload 2 rfl zd_X1_period_1.1.1.2.2 ?_
    refine rn_iadd zd_X1_period_1.1.2.1.1 ?_
    obtain ⟨r6, h7, h⟩ := zbd_e h
    refine rn_callVi (As := [.int x5, .int (x5 + x4)]) (rest := []) zl_X1_26 zm_X1_isSame ⟨by decide, by decide⟩ (ci := 1) rfl rfl (by decide) k_a0 rfl rfl (Nat.le_of_ble_eq_true rfl) zd_X1_period_1.1.2.1.2 (ok_X1_isSame hW k_a0 h7) ?_
    rcases zif_e h with ⟨hc8, h⟩ | ⟨hc8, h⟩
    · refine rn_if_eq_t (tgt := 57) hc8 zd_X1_period_1.1.2.2.1 rfl ?_
      refine rn_iinc (v := (x5 + 1)) (ls' := [(5, .int (x5 + 1)), (0, .ref a0), (3, .int x3), (4, .int x4)]) 3 rfl rfl (by decide) rfl zd_X1_period_1.2.2.1.2 ?_
      refine rn_goto (tgt := 20) zd_X1_period_1.2.2.2.1 rfl ?_
      cases h
      exact rn_sub (ls' := [(0, .ref a0), (3, .int x3), (4, .int x4), (5, .int (x5 + 1))]) [1, 2, 3, 0] rfl hk
    · refine rn_if_eq_f (tgt := 57) hc8 zd_X1_period_1.1.2.2.1 rfl ?_
      cases h
      exact rn_sub (ls' := [(3, .int x3), (4, .int x4), (5, .int x5)]) [1, 2, 3] rfl hk
def nb_X1_period_9 (R : zR) (M : zM) (L : zL) (a0 : Nat) (x3 : Int32) (x4 : Int32) : Option ((Int32) ⊕ ((Int32 × Int32) ⊕ (Unit))) :=
  if (300 : Int32) < x4 then (
    some (.inr (.inr ()))
  ) else (
    zbd (zloop zN (fun v => nb_X1_period_20 R M L a0 x3 x4 v) (0 : Int32)) fun e9 =>
    Sum.elim (fun e10 =>
      some (.inr (.inl (x4, e10)))
    ) (fun e11 =>
      some (.inl (x4 + 1))
    ) e9
  )
set_option maxRecDepth 4000 in
theorem ok_b_X1_period_9 {G : zG} {K : zK} {R : zR} {M : zM} {L : zL} (hW : zWT R K) {a0 : Nat} {x3 : Int32} {x4 : Int32} (k_a0 : K[a0]? = some (1, 2)) {r : Option Value} {S' : zS} {x : (Int32) ⊕ ((Int32 × Int32) ⊕ (Unit))} (h : nb_X1_period_9 R M L a0 x3 x4 = some x) (hk : Sum.elim (P_X1_period_9 G K R M L a0 x3 r S') (Q_X1_period_9 G K R M L a0 x3 r S') x) : P_X1_period_9 G K R M L a0 x3 r S' x4 := by
  show Rn G mt_X1_period 9 [(0, .ref a0), (3, .int x3), (4, .int x4)] [] (M, L, R, K) r S'
  unfold nb_X1_period_9 at h
  refine rn_iload 2 rfl zd_X1_period_0.1.2.2.1 ?_
  refine rn_sipush (v := 300) zd_X1_period_0.1.2.2.2 rfl ?_
  rcases zif_e h with ⟨hc4, h⟩ | ⟨hc4, h⟩
  · refine rn_icmp_gt_t (tgt := 69) hc4 zd_X1_period_0.2.1.1.1 rfl ?_
    cases h
    exact rn_sub (ls' := []) [] rfl hk
  · refine rn_icmp_gt_f (tgt := 69) hc4 zd_X1_period_0.2.1.1.1 rfl ?_
    refine rn_iconst (v := 0) zd_X1_period_0.2.1.1.2 rfl ?_
    refine rn_istore (ls' := [(5, .int (0 : Int32)), (0, .ref a0), (3, .int x3), (4, .int x4)]) (by decide) rfl zd_X1_period_0.2.1.2.1 ?_
    obtain ⟨e9, he9, h⟩ := zbd_e h
    refine rn_sub (ls' := [(0, .ref a0), (3, .int x3), (4, .int x4), (5, .int (0 : Int32))]) [1, 2, 3, 0] rfl (zloop_ok (P := P_X1_period_20 G K R M L a0 x3 x4 r S') (Q := Q_X1_period_20 G K R M L a0 x3 x4 r S') (fun v x hx hq => ok_b_X1_period_20 hW k_a0 hx hq) _ _ _ he9 ?_)
    rcases e9 with e10 | e11
    · rw [Sum.elim_inl] at h
      show Rn G mt_X1_period 45 [(3, .int x3), (4, .int x4), (5, .int e10)] [] (M, L, R, K) r S'
      cases h
      exact rn_sub (ls' := [(3, .int x3), (4, .int x4), (5, .int e10)]) [0, 1, 2] rfl hk
    · rw [Sum.elim_inr] at h
      show Rn G mt_X1_period 63 [(0, .ref a0), (3, .int x3), (4, .int x4)] [] (M, L, R, K) r S'
      refine rn_iinc (v := (x4 + 1)) (ls' := [(4, .int (x4 + 1)), (0, .ref a0), (3, .int x3)]) 2 rfl rfl (by decide) rfl zd_X1_period_1.2.2.2.2 ?_
      refine rn_goto (tgt := 9) zd_X1_period_2.1 rfl ?_
      cases h
      exact rn_sub (ls' := [(0, .ref a0), (3, .int x3), (4, .int (x4 + 1))]) [1, 2, 0] rfl hk
def n_X1_period (R : zR) (M : zM) (L : zL) (a0 : Nat) (a1 : Nat) (a2 : Nat) (x3 : Int32) : Option (Int32 × zM × zL) :=
  zbd2 (n_X1_walk R M L a0 a1 a2) fun M1 L2 =>
  zbd (zloop zN (fun v => nb_X1_period_9 R M1 L2 a0 x3 v) (1 : Int32)) fun e12 =>
  Sum.elim (fun e13 =>
    if x3 = 0 then (
      some (e13.2, M1, L2)
    ) else (
      some (e13.1, M1, L2)
    )
  ) (fun e14 =>
    some ((-2 : Int32), M1, L2)
  ) e12
set_option maxRecDepth 4000 in
theorem ok_X1_period {G : zG} {K : zK} {R : zR} {M : zM} {L : zL} (hW : zWT R K) {a0 : Nat} {a1 : Nat} {a2 : Nat} {x3 : Int32} (k_a0 : K[a0]? = some (1, 2)) (k_a1 : K[a1]? = some (7, 11)) (k_a2 : K[a2]? = some (6, 8)) {r' : Int32} {M' : zM} {L' : zL} (h : n_X1_period R M L a0 a1 a2 x3 = some (r', M', L')) : Rm G mt_X1_period [.ref a0, .ref a1, .ref a2, .int x3] (M, L, R, K) (some (.int r')) (M', L', R, K) := by
  refine rm_rn rfl rfl (Nat.le_of_ble_eq_true rfl) ?_
  show Rn G mt_X1_period 0 [(0, .ref a0), (1, .ref a1), (2, .ref a2), (3, .int x3)] [] (M, L, R, K) (some (.int r')) (M', L', R, K)
  unfold n_X1_period at h
  refine rn_aload_n (q := 0) 0 rfl zd_X1_period_0.1.1.1.1 ?_
  refine rn_aload_n (q := 1) 1 rfl zd_X1_period_0.1.1.1.2 ?_
  refine rn_aload_n (q := 2) 2 rfl zd_X1_period_0.1.1.2.1 ?_
  obtain ⟨M1, L2, h3, h⟩ := zbd2_e h
  refine rn_callVv (As := [.ref a1, .ref a2]) (rest := []) zl_X1_22 zm_X1_walk ⟨by decide, by decide⟩ (ci := 1) rfl rfl (by decide) k_a0 rfl rfl (Nat.le_of_ble_eq_true rfl) zd_X1_period_0.1.1.2.2 (ok_X1_walk hW k_a0 k_a1 k_a2 h3) ?_
  refine rn_iconst (v := 1) zd_X1_period_0.1.2.1.1 rfl ?_
  refine rn_istore (ls' := [(4, .int (1 : Int32)), (0, .ref a0), (1, .ref a1), (2, .ref a2), (3, .int x3)]) (by decide) rfl zd_X1_period_0.1.2.1.2 ?_
  obtain ⟨e12, he12, h⟩ := zbd_e h
  refine rn_sub (ls' := [(0, .ref a0), (3, .int x3), (4, .int (1 : Int32))]) [1, 4, 0] rfl (zloop_ok (P := P_X1_period_9 G K R M1 L2 a0 x3 (some (.int r')) (M', L', R, K)) (Q := Q_X1_period_9 G K R M1 L2 a0 x3 (some (.int r')) (M', L', R, K)) (fun v x hx hq => ok_b_X1_period_9 hW k_a0 hx hq) _ _ _ he12 ?_)
  rcases e12 with e13 | e14
  · rw [Sum.elim_inl] at h
    show Rn G mt_X1_period 45 [(3, .int x3), (4, .int e13.1), (5, .int e13.2)] [] (M1, L2, R, K) (some (.int r')) (M', L', R, K)
    refine rn_iload_n (q := 3) 0 rfl zd_X1_period_1.1.2.2.2 ?_
    rcases zif_e h with ⟨hc15, h⟩ | ⟨hc15, h⟩
    · refine rn_if_eq_t (tgt := 54) hc15 zd_X1_period_1.2.1.1.1 rfl ?_
      refine rn_iload 2 rfl zd_X1_period_1.2.1.2.2 ?_
      cases h
      exact rn_iret zd_X1_period_1.2.2.1.1 rfl
    · refine rn_if_eq_f (tgt := 54) hc15 zd_X1_period_1.2.1.1.1 rfl ?_
      refine rn_iload 1 rfl zd_X1_period_1.2.1.1.2 ?_
      refine rn_goto (tgt := 56) zd_X1_period_1.2.1.2.1 rfl ?_
      cases h
      exact rn_iret zd_X1_period_1.2.2.1.1 rfl
  · rw [Sum.elim_inr] at h
    show Rn G mt_X1_period 69 [] [] (M1, L2, R, K) (some (.int r')) (M', L', R, K)
    refine rn_bipush (v := -2) zd_X1_period_2.2.1 rfl ?_
    cases h
    exact rn_iret zd_X1_period_2.2.2 rfl
def n_X1_spreadAfter (R : zR) (M : zM) (L : zL) (a0 : Nat) (a1 : Nat) (a2 : Nat) (x3 : Int32) : Option (Int32 × zM × zL) :=
  zbd2 (n_X6_copy R M L (R a0 0) a2) fun M1 L2 =>
  zbd2 (n_X7_evenings R M1 L2 a1 (R a0 0) x3 (M1 a1 8)) fun M4 L5 =>
  zbd (f_X6_spread R M4 (R a0 0)) fun r7 =>
  some (r7, M4, L5)
set_option maxRecDepth 4000 in
theorem ok_X1_spreadAfter {G : zG} {K : zK} {R : zR} {M : zM} {L : zL} (hW : zWT R K) {a0 : Nat} {a1 : Nat} {a2 : Nat} {x3 : Int32} (k_a0 : K[a0]? = some (1, 2)) (k_a1 : K[a1]? = some (7, 11)) (k_a2 : K[a2]? = some (6, 8)) {r' : Int32} {M' : zM} {L' : zL} (h : n_X1_spreadAfter R M L a0 a1 a2 x3 = some (r', M', L')) : Rm G mt_X1_spreadAfter [.ref a0, .ref a1, .ref a2, .int x3] (M, L, R, K) (some (.int r')) (M', L', R, K) := by
  refine rm_rn rfl rfl (Nat.le_of_ble_eq_true rfl) ?_
  show Rn G mt_X1_spreadAfter 0 [(0, .ref a0), (1, .ref a1), (2, .ref a2), (3, .int x3)] [] (M, L, R, K) (some (.int r')) (M', L', R, K)
  unfold n_X1_spreadAfter at h
  refine rn_aload_n (q := 0) 0 rfl zd_X1_spreadAfter_0.1.1.1 ?_
  refine rn_getR zf_X1_12 (Or.inl ⟨_, rfl⟩) k_a0 (zx_1_0 hW k_a0) zd_X1_spreadAfter_0.1.1.2.1 ?_
  refine rn_aload_n (q := 2) 2 rfl zd_X1_spreadAfter_0.1.1.2.2 ?_
  obtain ⟨M1, L2, h3, h⟩ := zbd2_e h
  refine rn_callVv (As := [.ref a2]) (rest := []) zl_X1_30 zm_X6_copy ⟨by decide, by decide⟩ (ci := 6) rfl rfl (by decide) (zw_1_0 hW k_a0) rfl rfl (Nat.le_of_ble_eq_true rfl) zd_X1_spreadAfter_0.1.2.1.1 (ok_X6_copy hW (zw_1_0 hW k_a0) k_a2 h3) ?_
  refine rn_aload_n (q := 1) 1 rfl zd_X1_spreadAfter_0.1.2.1.2 ?_
  refine rn_aload_n (q := 0) 0 rfl zd_X1_spreadAfter_0.1.2.2.1 ?_
  refine rn_getR zf_X1_12 (Or.inl ⟨_, rfl⟩) k_a0 (zx_1_0 hW k_a0) zd_X1_spreadAfter_0.1.2.2.2 ?_
  refine rn_iload_n (q := 3) 3 rfl zd_X1_spreadAfter_0.2.1.1.1 ?_
  refine rn_aload_n (q := 1) 1 rfl zd_X1_spreadAfter_0.2.1.1.2 ?_
  refine rn_getI zf_X1_45 (Or.inl rfl) k_a1 zd_X1_spreadAfter_0.2.1.2.1 ?_
  obtain ⟨M4, L5, h6, h⟩ := zbd2_e h
  refine rn_callVv (As := [.ref (R a0 0), .int x3, .int (M1 a1 8)]) (rest := []) zl_X1_57 zm_X7_evenings ⟨by decide, by decide⟩ (ci := 7) rfl rfl (by decide) k_a1 rfl rfl (Nat.le_of_ble_eq_true rfl) zd_X1_spreadAfter_0.2.1.2.2 (ok_X7_evenings hW k_a1 (zw_1_0 hW k_a0) h6) ?_
  refine rn_aload_n (q := 0) 0 rfl zd_X1_spreadAfter_0.2.2.1.1 ?_
  refine rn_getR zf_X1_12 (Or.inl ⟨_, rfl⟩) k_a0 (zx_1_0 hW k_a0) zd_X1_spreadAfter_0.2.2.1.2 ?_
  obtain ⟨r7, h8, h⟩ := zbd_e h
  refine rn_callVi (As := []) (rest := []) zl_X1_61 zm_X6_spread ⟨by decide, by decide⟩ (ci := 6) rfl rfl (by decide) (zw_1_0 hW k_a0) rfl rfl (Nat.le_of_ble_eq_true rfl) zd_X1_spreadAfter_0.2.2.2.1 (ok_X6_spread hW (zw_1_0 hW k_a0) h8) ?_
  cases h
  exact rn_iret zd_X1_spreadAfter_0.2.2.2.2 rfl
abbrev P_X1_evenAfter_11 (G : zG) (K : zK) (R : zR) (a0 : Nat) (a1 : Nat) (x3 : Int32) (x4 : Int32) (r : Option Value) (S' : zS) (v : Int32 × zM × zL) : Prop := Rn G mt_X1_evenAfter 11 [(0, .ref a0), (1, .ref a1), (3, .int x3), (4, .int x4), (5, .int v.1)] [] (v.2.1, v.2.2, R, K) r S'
abbrev Q_X1_evenAfter_11 (G : zG) (K : zK) (R : zR) (a0 : Nat) (a1 : Nat) (x3 : Int32) (x4 : Int32) (r : Option Value) (S' : zS) : (Int32 × zM × zL) ⊕ (zM × zL) → Prop := (Sum.elim (fun e => Rn G mt_X1_evenAfter 30 [(5, .int e.1)] [] (e.2.1, e.2.2, R, K) r S') (fun e => Rn G mt_X1_evenAfter 49 [] [] (e.1, e.2, R, K) r S'))
def nb_X1_evenAfter_11 (R : zR) (M : zM) (L : zL) (a0 : Nat) (a1 : Nat) (x3 : Int32) (x4 : Int32) (x5 : Int32) : Option ((Int32 × zM × zL) ⊕ ((Int32 × zM × zL) ⊕ (zM × zL))) :=
  if (300 : Int32) < x5 then (
    some (.inr (.inr (M, L)))
  ) else (
    zbd (f_X6_spread R M (R a0 0)) fun r5 =>
    if x3 < r5 then (
      zbd2 (n_X7_evening R M L a1 (R a0 0) x4) fun M8 L9 =>
      some (.inl ((x5 + 1), M8, L9))
    ) else (
      some (.inr (.inl (x5, M, L)))
    )
  )
set_option maxRecDepth 4000 in
theorem ok_b_X1_evenAfter_11 {G : zG} {K : zK} {R : zR} {M : zM} {L : zL} (hW : zWT R K) {a0 : Nat} {a1 : Nat} {x3 : Int32} {x4 : Int32} {x5 : Int32} (k_a0 : K[a0]? = some (1, 2)) (k_a1 : K[a1]? = some (7, 11)) {r : Option Value} {S' : zS} {x : (Int32 × zM × zL) ⊕ ((Int32 × zM × zL) ⊕ (zM × zL))} (h : nb_X1_evenAfter_11 R M L a0 a1 x3 x4 x5 = some x) (hk : Sum.elim (P_X1_evenAfter_11 G K R a0 a1 x3 x4 r S') (Q_X1_evenAfter_11 G K R a0 a1 x3 x4 r S') x) : P_X1_evenAfter_11 G K R a0 a1 x3 x4 r S' (x5, M, L) := by
  show Rn G mt_X1_evenAfter 11 [(0, .ref a0), (1, .ref a1), (3, .int x3), (4, .int x4), (5, .int x5)] [] (M, L, R, K) r S'
  unfold nb_X1_evenAfter_11 at h
  refine rn_iload 4 rfl zd_X1_evenAfter_0.1.2.2.1 ?_
  refine rn_sipush (v := 300) zd_X1_evenAfter_0.1.2.2.2 rfl ?_
  rcases zif_e h with ⟨hc4, h⟩ | ⟨hc4, h⟩
  · refine rn_icmp_gt_t (tgt := 49) hc4 zd_X1_evenAfter_0.2.1.1.1 rfl ?_
    cases h
    exact rn_sub (ls' := []) [] rfl hk
  · refine rn_icmp_gt_f (tgt := 49) hc4 zd_X1_evenAfter_0.2.1.1.1 rfl ?_
    refine rn_aload_n (q := 0) 0 rfl zd_X1_evenAfter_0.2.1.1.2 ?_
    refine rn_getR zf_X1_12 (Or.inl ⟨_, rfl⟩) k_a0 (zx_1_0 hW k_a0) zd_X1_evenAfter_0.2.1.2.1 ?_
    obtain ⟨r5, h6, h⟩ := zbd_e h
    refine rn_callVi (As := []) (rest := []) zl_X1_61 zm_X6_spread ⟨by decide, by decide⟩ (ci := 6) rfl rfl (by decide) (zw_1_0 hW k_a0) rfl rfl (Nat.le_of_ble_eq_true rfl) zd_X1_evenAfter_0.2.1.2.2 (ok_X6_spread hW (zw_1_0 hW k_a0) h6) ?_
    refine rn_iload_n (q := 3) 2 rfl zd_X1_evenAfter_0.2.2.1.1 ?_
    rcases zif_e h with ⟨hc7, h⟩ | ⟨hc7, h⟩
    · refine rn_icmp_gt_t (tgt := 33) hc7 zd_X1_evenAfter_0.2.2.1.2 rfl ?_
      refine rn_aload_n (q := 1) 1 rfl zd_X1_evenAfter_1.1.1.1 ?_
      refine rn_aload_n (q := 0) 0 rfl zd_X1_evenAfter_1.1.1.2 ?_
      refine rn_getR zf_X1_12 (Or.inl ⟨_, rfl⟩) k_a0 (zx_1_0 hW k_a0) zd_X1_evenAfter_1.1.2.1 ?_
      refine rn_iload 3 rfl zd_X1_evenAfter_1.1.2.2 ?_
      obtain ⟨M8, L9, h10, h⟩ := zbd2_e h
      refine rn_callVv (As := [.ref (R a0 0), .int x4]) (rest := []) zl_X1_50 zm_X7_evening ⟨by decide, by decide⟩ (ci := 7) rfl rfl (by decide) k_a1 rfl rfl (Nat.le_of_ble_eq_true rfl) zd_X1_evenAfter_1.2.1.1 (ok_X7_evening hW k_a1 (zw_1_0 hW k_a0) h10) ?_
      refine rn_iinc (v := (x5 + 1)) (ls' := [(5, .int (x5 + 1)), (0, .ref a0), (1, .ref a1), (3, .int x3), (4, .int x4)]) 4 rfl rfl (by decide) rfl zd_X1_evenAfter_1.2.1.2 ?_
      refine rn_goto (tgt := 11) zd_X1_evenAfter_1.2.2.1 rfl ?_
      cases h
      exact rn_sub (ls' := [(0, .ref a0), (1, .ref a1), (3, .int x3), (4, .int x4), (5, .int (x5 + 1))]) [1, 2, 3, 4, 0] rfl hk
    · refine rn_icmp_gt_f (tgt := 33) hc7 zd_X1_evenAfter_0.2.2.1.2 rfl ?_
      cases h
      exact rn_sub (ls' := [(5, .int x5)]) [4] rfl hk
def n_X1_evenAfter (R : zR) (M : zM) (L : zL) (a0 : Nat) (a1 : Nat) (a2 : Nat) (x3 : Int32) (x4 : Int32) : Option (Int32 × zM × zL) :=
  zbd2 (n_X6_copy R M L (R a0 0) a2) fun M1 L2 =>
  zbd (zloop zN (fun v => nb_X1_evenAfter_11 R v.2.1 v.2.2 a0 a1 x3 x4 v.1) ((0 : Int32), M1, L2)) fun e11 =>
  Sum.elim (fun e12 =>
    some (e12.1, e12.2.1, e12.2.2)
  ) (fun e13 =>
    some ((-2 : Int32), e13.1, e13.2)
  ) e11
set_option maxRecDepth 4000 in
theorem ok_X1_evenAfter {G : zG} {K : zK} {R : zR} {M : zM} {L : zL} (hW : zWT R K) {a0 : Nat} {a1 : Nat} {a2 : Nat} {x3 : Int32} {x4 : Int32} (k_a0 : K[a0]? = some (1, 2)) (k_a1 : K[a1]? = some (7, 11)) (k_a2 : K[a2]? = some (6, 8)) {r' : Int32} {M' : zM} {L' : zL} (h : n_X1_evenAfter R M L a0 a1 a2 x3 x4 = some (r', M', L')) : Rm G mt_X1_evenAfter [.ref a0, .ref a1, .ref a2, .int x3, .int x4] (M, L, R, K) (some (.int r')) (M', L', R, K) := by
  refine rm_rn rfl rfl (Nat.le_of_ble_eq_true rfl) ?_
  show Rn G mt_X1_evenAfter 0 [(0, .ref a0), (1, .ref a1), (2, .ref a2), (3, .int x3), (4, .int x4)] [] (M, L, R, K) (some (.int r')) (M', L', R, K)
  unfold n_X1_evenAfter at h
  refine rn_aload_n (q := 0) 0 rfl zd_X1_evenAfter_0.1.1.1.1 ?_
  refine rn_getR zf_X1_12 (Or.inl ⟨_, rfl⟩) k_a0 (zx_1_0 hW k_a0) zd_X1_evenAfter_0.1.1.1.2 ?_
  refine rn_aload_n (q := 2) 2 rfl zd_X1_evenAfter_0.1.1.2.1 ?_
  obtain ⟨M1, L2, h3, h⟩ := zbd2_e h
  refine rn_callVv (As := [.ref a2]) (rest := []) zl_X1_30 zm_X6_copy ⟨by decide, by decide⟩ (ci := 6) rfl rfl (by decide) (zw_1_0 hW k_a0) rfl rfl (Nat.le_of_ble_eq_true rfl) zd_X1_evenAfter_0.1.1.2.2 (ok_X6_copy hW (zw_1_0 hW k_a0) k_a2 h3) ?_
  refine rn_iconst (v := 0) zd_X1_evenAfter_0.1.2.1.1 rfl ?_
  refine rn_istore (ls' := [(5, .int (0 : Int32)), (0, .ref a0), (1, .ref a1), (2, .ref a2), (3, .int x3), (4, .int x4)]) (by decide) rfl zd_X1_evenAfter_0.1.2.1.2 ?_
  obtain ⟨e11, he11, h⟩ := zbd_e h
  refine rn_sub (ls' := [(0, .ref a0), (1, .ref a1), (3, .int x3), (4, .int x4), (5, .int (0 : Int32))]) [1, 2, 4, 5, 0] rfl (zloop_ok (P := P_X1_evenAfter_11 G K R a0 a1 x3 x4 (some (.int r')) (M', L', R, K)) (Q := Q_X1_evenAfter_11 G K R a0 a1 x3 x4 (some (.int r')) (M', L', R, K)) (fun v x hx hq => ok_b_X1_evenAfter_11 hW k_a0 k_a1 hx hq) _ _ _ he11 ?_)
  rcases e11 with e12 | e13
  · rw [Sum.elim_inl] at h
    show Rn G mt_X1_evenAfter 30 [(5, .int e12.1)] [] (e12.2.1, e12.2.2, R, K) (some (.int r')) (M', L', R, K)
    refine rn_iload 0 rfl zd_X1_evenAfter_0.2.2.2.1 ?_
    cases h
    exact rn_iret zd_X1_evenAfter_0.2.2.2.2 rfl
  · rw [Sum.elim_inr] at h
    show Rn G mt_X1_evenAfter 49 [] [] (e13.1, e13.2, R, K) (some (.int r')) (M', L', R, K)
    refine rn_bipush (v := -2) zd_X1_evenAfter_1.2.2.2.1 rfl ?_
    cases h
    exact rn_iret zd_X1_evenAfter_1.2.2.2.2 rfl
abbrev P_X1_soonestSharing_12 (G : zG) (K : zK) (R : zR) (a0 : Nat) (a1 : Nat) (a2 : Nat) (x3 : Int32) (r : Option Value) (S' : zS) (v : Int32 × Int32 × Int32 × zM × zL) : Prop := Rn G mt_X1_soonestSharing 12 [(0, .ref a0), (1, .ref a1), (2, .ref a2), (3, .int x3), (4, .int v.1), (5, .int v.2.1), (6, .int v.2.2.1)] [] (v.2.2.2.1, v.2.2.2.2, R, K) r S'
abbrev Q_X1_soonestSharing_12 (G : zG) (K : zK) (R : zR) (a0 : Nat) (a1 : Nat) (a2 : Nat) (x3 : Int32) (r : Option Value) (S' : zS) : (Int32 × zM × zL) → Prop := (fun e => Rn G mt_X1_soonestSharing 55 [(4, .int e.1)] [] (e.2.1, e.2.2, R, K) r S')
def nb_X1_soonestSharing_12 (R : zR) (M : zM) (L : zL) (a0 : Nat) (a1 : Nat) (a2 : Nat) (x3 : Int32) (x4 : Int32) (x5 : Int32) (x6 : Int32) : Option ((Int32 × Int32 × Int32 × zM × zL) ⊕ ((Int32 × zM × zL))) :=
  if (2 : Int32) < x6 then (
    some (.inr (x4, M, L))
  ) else (
    zbd3 (n_X1_evenAfter R M L a0 a1 a2 x3 x6) fun r2 M3 L4 =>
    if r2 < 0 then (
      some (.inl (x4, x5, (x6 + 1), M3, L4))
    ) else (
      if x5 ≤ r2 then (
        some (.inl (x4, x5, (x6 + 1), M3, L4))
      ) else (
        some (.inl (x6, r2, (x6 + 1), M3, L4))
      )
    )
  )
set_option maxRecDepth 4000 in
theorem ok_b_X1_soonestSharing_12 {G : zG} {K : zK} {R : zR} {M : zM} {L : zL} (hW : zWT R K) {a0 : Nat} {a1 : Nat} {a2 : Nat} {x3 : Int32} {x4 : Int32} {x5 : Int32} {x6 : Int32} (k_a0 : K[a0]? = some (1, 2)) (k_a1 : K[a1]? = some (7, 11)) (k_a2 : K[a2]? = some (6, 8)) {r : Option Value} {S' : zS} {x : (Int32 × Int32 × Int32 × zM × zL) ⊕ ((Int32 × zM × zL))} (h : nb_X1_soonestSharing_12 R M L a0 a1 a2 x3 x4 x5 x6 = some x) (hk : Sum.elim (P_X1_soonestSharing_12 G K R a0 a1 a2 x3 r S') (Q_X1_soonestSharing_12 G K R a0 a1 a2 x3 r S') x) : P_X1_soonestSharing_12 G K R a0 a1 a2 x3 r S' (x4, x5, x6, M, L) := by
  show Rn G mt_X1_soonestSharing 12 [(0, .ref a0), (1, .ref a1), (2, .ref a2), (3, .int x3), (4, .int x4), (5, .int x5), (6, .int x6)] [] (M, L, R, K) r S'
  unfold nb_X1_soonestSharing_12 at h
  refine rn_iload 6 rfl zd_X1_soonestSharing_0.1.2.2.1 ?_
  refine rn_iconst (v := 2) zd_X1_soonestSharing_0.1.2.2.2 rfl ?_
  rcases zif_e h with ⟨hc1, h⟩ | ⟨hc1, h⟩
  · refine rn_icmp_gt_t (tgt := 55) hc1 zd_X1_soonestSharing_0.2.1.1.1 rfl ?_
    cases h
    exact rn_sub (ls' := [(4, .int x4)]) [4] rfl hk
  · refine rn_icmp_gt_f (tgt := 55) hc1 zd_X1_soonestSharing_0.2.1.1.1 rfl ?_
    refine rn_aload_n (q := 0) 0 rfl zd_X1_soonestSharing_0.2.1.1.2 ?_
    refine rn_aload_n (q := 1) 1 rfl zd_X1_soonestSharing_0.2.1.2.1 ?_
    refine rn_aload_n (q := 2) 2 rfl zd_X1_soonestSharing_0.2.1.2.2 ?_
    refine rn_iload_n (q := 3) 3 rfl zd_X1_soonestSharing_0.2.2.1.1 ?_
    refine rn_iload 6 rfl zd_X1_soonestSharing_0.2.2.1.2 ?_
    obtain ⟨r2, M3, L4, h5, h⟩ := zbd3_e h
    refine rn_callVi (As := [.ref a1, .ref a2, .int x3, .int x6]) (rest := []) zl_X1_65 zm_X1_evenAfter ⟨by decide, by decide⟩ (ci := 1) rfl rfl (by decide) k_a0 rfl rfl (Nat.le_of_ble_eq_true rfl) zd_X1_soonestSharing_0.2.2.2.1 (ok_X1_evenAfter hW k_a0 k_a1 k_a2 h5) ?_
    refine rn_istore (ls' := [(7, .int r2), (0, .ref a0), (1, .ref a1), (2, .ref a2), (3, .int x3), (4, .int x4), (5, .int x5), (6, .int x6)]) (by decide) rfl zd_X1_soonestSharing_0.2.2.2.2 ?_
    refine rn_iload 0 rfl zd_X1_soonestSharing_1.1.1.1 ?_
    rcases zif_e h with ⟨hc6, h⟩ | ⟨hc6, h⟩
    · refine rn_if_lt_t (tgt := 49) hc6 zd_X1_soonestSharing_1.1.1.2.1 rfl ?_
      refine rn_iinc (v := (x6 + 1)) (ls' := [(6, .int (x6 + 1)), (7, .int r2), (0, .ref a0), (1, .ref a1), (2, .ref a2), (3, .int x3), (4, .int x4), (5, .int x5)]) 7 rfl rfl (by decide) rfl zd_X1_soonestSharing_1.2.2.1.1 ?_
      refine rn_goto (tgt := 12) zd_X1_soonestSharing_1.2.2.1.2 rfl ?_
      cases h
      exact rn_sub (ls' := [(0, .ref a0), (1, .ref a1), (2, .ref a2), (3, .int x3), (4, .int x4), (5, .int x5), (6, .int (x6 + 1))]) [2, 3, 4, 5, 6, 7, 0] rfl hk
    · refine rn_if_lt_f (tgt := 49) hc6 zd_X1_soonestSharing_1.1.1.2.1 rfl ?_
      refine rn_iload 0 rfl zd_X1_soonestSharing_1.1.1.2.2 ?_
      refine rn_iload 6 rfl zd_X1_soonestSharing_1.1.2.1 ?_
      rcases zif_e h with ⟨hc7, h⟩ | ⟨hc7, h⟩
      · refine rn_icmp_ge_t (tgt := 49) hc7 zd_X1_soonestSharing_1.1.2.2.1 rfl ?_
        refine rn_iinc (v := (x6 + 1)) (ls' := [(6, .int (x6 + 1)), (7, .int r2), (0, .ref a0), (1, .ref a1), (2, .ref a2), (3, .int x3), (4, .int x4), (5, .int x5)]) 7 rfl rfl (by decide) rfl zd_X1_soonestSharing_1.2.2.1.1 ?_
        refine rn_goto (tgt := 12) zd_X1_soonestSharing_1.2.2.1.2 rfl ?_
        cases h
        exact rn_sub (ls' := [(0, .ref a0), (1, .ref a1), (2, .ref a2), (3, .int x3), (4, .int x4), (5, .int x5), (6, .int (x6 + 1))]) [2, 3, 4, 5, 6, 7, 0] rfl hk
      · refine rn_icmp_ge_f (tgt := 49) hc7 zd_X1_soonestSharing_1.1.2.2.1 rfl ?_
        refine rn_iload 0 rfl zd_X1_soonestSharing_1.1.2.2.2 ?_
        refine rn_istore (ls' := [(5, .int r2), (7, .int r2), (0, .ref a0), (1, .ref a1), (2, .ref a2), (3, .int x3), (4, .int x4), (6, .int x6)]) (by decide) rfl zd_X1_soonestSharing_1.2.1.1 ?_
        refine rn_iload 7 rfl zd_X1_soonestSharing_1.2.1.2.1 ?_
        refine rn_istore (ls' := [(4, .int x6), (5, .int r2), (7, .int r2), (0, .ref a0), (1, .ref a1), (2, .ref a2), (3, .int x3), (6, .int x6)]) (by decide) rfl zd_X1_soonestSharing_1.2.1.2.2 ?_
        refine rn_iinc (v := (x6 + 1)) (ls' := [(6, .int (x6 + 1)), (4, .int x6), (5, .int r2), (7, .int r2), (0, .ref a0), (1, .ref a1), (2, .ref a2), (3, .int x3)]) 7 rfl rfl (by decide) rfl zd_X1_soonestSharing_1.2.2.1.1 ?_
        refine rn_goto (tgt := 12) zd_X1_soonestSharing_1.2.2.1.2 rfl ?_
        cases h
        exact rn_sub (ls' := [(0, .ref a0), (1, .ref a1), (2, .ref a2), (3, .int x3), (4, .int x6), (5, .int r2), (6, .int (x6 + 1))]) [4, 5, 6, 7, 1, 2, 0] rfl hk
def n_X1_soonestSharing (R : zR) (M : zM) (L : zL) (a0 : Nat) (a1 : Nat) (a2 : Nat) (x3 : Int32) : Option (Int32 × zM × zL) :=
  zbd (zloop zN (fun v => nb_X1_soonestSharing_12 R v.2.2.2.1 v.2.2.2.2 a0 a1 a2 x3 v.1 v.2.1 v.2.2.1) ((-2 : Int32), (301 : Int32), (0 : Int32), M, L)) fun e8 =>
  some (e8.1, e8.2.1, e8.2.2)
set_option maxRecDepth 4000 in
theorem ok_X1_soonestSharing {G : zG} {K : zK} {R : zR} {M : zM} {L : zL} (hW : zWT R K) {a0 : Nat} {a1 : Nat} {a2 : Nat} {x3 : Int32} (k_a0 : K[a0]? = some (1, 2)) (k_a1 : K[a1]? = some (7, 11)) (k_a2 : K[a2]? = some (6, 8)) {r' : Int32} {M' : zM} {L' : zL} (h : n_X1_soonestSharing R M L a0 a1 a2 x3 = some (r', M', L')) : Rm G mt_X1_soonestSharing [.ref a0, .ref a1, .ref a2, .int x3] (M, L, R, K) (some (.int r')) (M', L', R, K) := by
  refine rm_rn rfl rfl (Nat.le_of_ble_eq_true rfl) ?_
  show Rn G mt_X1_soonestSharing 0 [(0, .ref a0), (1, .ref a1), (2, .ref a2), (3, .int x3)] [] (M, L, R, K) (some (.int r')) (M', L', R, K)
  unfold n_X1_soonestSharing at h
  refine rn_bipush (v := -2) zd_X1_soonestSharing_0.1.1.1.1 rfl ?_
  refine rn_istore (ls' := [(4, .int (-2 : Int32)), (0, .ref a0), (1, .ref a1), (2, .ref a2), (3, .int x3)]) (by decide) rfl zd_X1_soonestSharing_0.1.1.1.2 ?_
  refine rn_sipush (v := 301) zd_X1_soonestSharing_0.1.1.2.1 rfl ?_
  refine rn_istore (ls' := [(5, .int (301 : Int32)), (4, .int (-2 : Int32)), (0, .ref a0), (1, .ref a1), (2, .ref a2), (3, .int x3)]) (by decide) rfl zd_X1_soonestSharing_0.1.1.2.2 ?_
  refine rn_iconst (v := 0) zd_X1_soonestSharing_0.1.2.1.1 rfl ?_
  refine rn_istore (ls' := [(6, .int (0 : Int32)), (5, .int (301 : Int32)), (4, .int (-2 : Int32)), (0, .ref a0), (1, .ref a1), (2, .ref a2), (3, .int x3)]) (by decide) rfl zd_X1_soonestSharing_0.1.2.1.2 ?_
  obtain ⟨e8, he8, h⟩ := zbd_e h
  refine rn_sub (ls' := [(0, .ref a0), (1, .ref a1), (2, .ref a2), (3, .int x3), (4, .int (-2 : Int32)), (5, .int (301 : Int32)), (6, .int (0 : Int32))]) [3, 4, 5, 6, 2, 1, 0] rfl (zloop_ok (P := P_X1_soonestSharing_12 G K R a0 a1 a2 x3 (some (.int r')) (M', L', R, K)) (Q := Q_X1_soonestSharing_12 G K R a0 a1 a2 x3 (some (.int r')) (M', L', R, K)) (fun v x hx hq => ok_b_X1_soonestSharing_12 hW k_a0 k_a1 k_a2 hx hq) _ _ _ he8 ?_)
  show Rn G mt_X1_soonestSharing 55 [(4, .int e8.1)] [] (e8.2.1, e8.2.2, R, K) (some (.int r')) (M', L', R, K)
  refine rn_iload 0 rfl zd_X1_soonestSharing_1.2.2.2.1 ?_
  cases h
  exact rn_iret zd_X1_soonestSharing_1.2.2.2.2 rfl
def f_X2_forgetPast (M : zM) (a0 : Nat) : Option (zM) :=
  zlt (zup M a0 4 (0 : Int32)) fun M1 =>
  some M1
set_option maxRecDepth 4000 in
theorem ok_X2_forgetPast {G : zG} {K : zK} {R : zR} {M : zM} {L : zL} (hW : zWT R K) {a0 : Nat} (k_a0 : K[a0]? = some (2, 5)) {M' : zM} (h : f_X2_forgetPast M a0 = some M') : Rm G mt_X2_forgetPast [.ref a0] (M, L, R, K) none (M', L, R, K) := by
  refine rm_rn rfl rfl (Nat.le_of_ble_eq_true rfl) ?_
  show Rn G mt_X2_forgetPast 0 [(0, .ref a0)] [] (M, L, R, K) none (M', L, R, K)
  unfold f_X2_forgetPast at h
  refine rn_aload_n (q := 0) 0 rfl zd_X2_forgetPast_0.1.1 ?_
  refine rn_iconst (v := 0) zd_X2_forgetPast_0.1.2 rfl ?_
  obtain ⟨M1, hM1, h⟩ := zlt_e h
  refine rn_putI hM1 zf_X2_28 k_a0 zd_X2_forgetPast_0.2.1 ?_
  cases h
  exact rn_vret zd_X2_forgetPast_0.2.2 rfl
abbrev P_X2_clear_6 (G : zG) (K : zK) (R : zR) (L : zL) (a0 : Nat) (r : Option Value) (S' : zS) (v : Int32 × zM) : Prop := Rn G mt_X2_clear 6 [(0, .ref a0), (1, .int v.1)] [] (v.2, L, R, K) r S'
abbrev Q_X2_clear_6 (G : zG) (K : zK) (R : zR) (L : zL) (a0 : Nat) (r : Option Value) (S' : zS) : (zM) → Prop := (fun e => Rn G mt_X2_clear 28 [] [] (e, L, R, K) r S')
def b_X2_clear_6 (R : zR) (M : zM) (a0 : Nat) (x1 : Int32) : Option ((Int32 × zM) ⊕ ((zM))) :=
  if (3 : Int32) ≤ x1 then (
    some (.inr M)
  ) else (
    zck (zin x1 3) <|
    zlt (zup M (R a0 2) (ztn x1) (0 : Int32)) fun M5 =>
    some (.inl ((x1 + 1), M5))
  )
set_option maxRecDepth 4000 in
theorem ok_b_X2_clear_6 {G : zG} {K : zK} {R : zR} {M : zM} {L : zL} (hW : zWT R K) {a0 : Nat} {x1 : Int32} (k_a0 : K[a0]? = some (2, 5)) {r : Option Value} {S' : zS} {x : (Int32 × zM) ⊕ ((zM))} (h : b_X2_clear_6 R M a0 x1 = some x) (hk : Sum.elim (P_X2_clear_6 G K R L a0 r S') (Q_X2_clear_6 G K R L a0 r S') x) : P_X2_clear_6 G K R L a0 r S' (x1, M) := by
  show Rn G mt_X2_clear 6 [(0, .ref a0), (1, .int x1)] [] (M, L, R, K) r S'
  unfold b_X2_clear_6 at h
  refine rn_iload_n (q := 1) 1 rfl zd_X2_clear_0.1.2.1.1 ?_
  refine rn_aload_n (q := 0) 0 rfl zd_X2_clear_0.1.2.1.2 ?_
  refine rn_getR zf_X2_20 (Or.inr ⟨_, rfl⟩) k_a0 (zx_2_2 hW k_a0) zd_X2_clear_0.1.2.2.1 ?_
  refine rn_alen (v := 3) (zw_2_2 hW k_a0) (Or.inr (Or.inr (Or.inl rfl))) rfl zd_X2_clear_0.1.2.2.2 ?_
  rcases zif_e h with ⟨hc3, h⟩ | ⟨hc3, h⟩
  · refine rn_icmp_ge_t (tgt := 28) hc3 zd_X2_clear_0.2.1.1.1 rfl ?_
    cases h
    exact rn_sub (ls' := []) [] rfl hk
  · refine rn_icmp_ge_f (tgt := 28) hc3 zd_X2_clear_0.2.1.1.1 rfl ?_
    refine rn_aload_n (q := 0) 0 rfl zd_X2_clear_0.2.1.1.2 ?_
    refine rn_getR zf_X2_20 (Or.inr ⟨_, rfl⟩) k_a0 (zx_2_2 hW k_a0) zd_X2_clear_0.2.1.2.1 ?_
    refine rn_iload_n (q := 1) 1 rfl zd_X2_clear_0.2.1.2.2 ?_
    refine rn_iconst (v := 0) zd_X2_clear_0.2.2.1.1 rfl ?_
    obtain ⟨hc4, h⟩ := zck_e h
    obtain ⟨M5, hM5, h⟩ := zlt_e h
    refine rn_zast rfl hM5 (zw_2_2 hW k_a0) hc4 zd_X2_clear_0.2.2.1.2 ?_
    refine rn_iinc (v := (x1 + 1)) (ls' := [(1, .int (x1 + 1)), (0, .ref a0)]) 1 rfl rfl (by decide) rfl zd_X2_clear_0.2.2.2.1 ?_
    refine rn_goto (tgt := 6) zd_X2_clear_0.2.2.2.2 rfl ?_
    cases h
    exact rn_sub (ls' := [(0, .ref a0), (1, .int (x1 + 1))]) [1, 0] rfl hk
def f_X2_clear (R : zR) (M : zM) (a0 : Nat) : Option (zM) :=
  zbd (f_X2_forgetPast M a0) fun M1 =>
  zbd (zloop zN (fun v => b_X2_clear_6 R v.2 a0 v.1) ((0 : Int32), M1)) fun e6 =>
  some e6
set_option maxRecDepth 4000 in
theorem ok_X2_clear {G : zG} {K : zK} {R : zR} {M : zM} {L : zL} (hW : zWT R K) {a0 : Nat} (k_a0 : K[a0]? = some (2, 5)) {M' : zM} (h : f_X2_clear R M a0 = some M') : Rm G mt_X2_clear [.ref a0] (M, L, R, K) none (M', L, R, K) := by
  refine rm_rn rfl rfl (Nat.le_of_ble_eq_true rfl) ?_
  show Rn G mt_X2_clear 0 [(0, .ref a0)] [] (M, L, R, K) none (M', L, R, K)
  unfold f_X2_clear at h
  refine rn_aload_n (q := 0) 0 rfl zd_X2_clear_0.1.1.1.1 ?_
  obtain ⟨M1, h2, h⟩ := zbd_e h
  refine rn_callVv (As := []) (rest := []) zl_X2_25 zm_X2_forgetPast ⟨by decide, by decide⟩ (ci := 2) rfl rfl (by decide) k_a0 rfl rfl (Nat.le_of_ble_eq_true rfl) zd_X2_clear_0.1.1.1.2 (ok_X2_forgetPast hW k_a0 h2) ?_
  refine rn_iconst (v := 0) zd_X2_clear_0.1.1.2.1 rfl ?_
  refine rn_istore_n (q := 1) (ls' := [(1, .int (0 : Int32)), (0, .ref a0)]) (by decide) rfl zd_X2_clear_0.1.1.2.2 ?_
  obtain ⟨e6, he6, h⟩ := zbd_e h
  refine rn_sub (ls' := [(0, .ref a0), (1, .int (0 : Int32))]) [1, 0] rfl (zloop_ok (P := P_X2_clear_6 G K R L a0 none (M', L, R, K)) (Q := Q_X2_clear_6 G K R L a0 none (M', L, R, K)) (fun v x hx hq => ok_b_X2_clear_6 hW k_a0 hx hq) _ _ _ he6 ?_)
  show Rn G mt_X2_clear 28 [] [] (e6, L, R, K) none (M', L, R, K)
  cases h
  exact rn_vret zd_X2_clear_1 rfl
def nj_X2_note_70 (R : zR) (M : zM) (L : zL) (a0 : Nat) (b0 : Nat) (s1 : Int32) : Option (zM × zL) :=
  zlt (zup M b0 3 s1) fun M9 =>
  if (30 : Int32) ≤ (M9 a0 4) then (
    some (M9, L)
  ) else (
    zlt (zup M9 a0 4 ((M9 a0 4) + (1 : Int32))) fun M11 =>
    some (M11, L)
  )
set_option maxRecDepth 4000 in
theorem ok_j_X2_note_70 {G : zG} {K : zK} {R : zR} {M : zM} {L : zL} (hW : zWT R K) {a0 : Nat} {b0 : Nat} {s1 : Int32} (k_a0 : K[a0]? = some (2, 5)) (k_b0 : K[b0]? = some (2, 5)) {M' : zM} {L' : zL} (h : nj_X2_note_70 R M L a0 b0 s1 = some (M', L')) : Rn G mt_X2_note 70 [(0, .ref a0)] [.int s1, .ref b0] (M, L, R, K) none (M', L', R, K) := by
  unfold nj_X2_note_70 at h
  obtain ⟨M9, hM9, h⟩ := zlt_e h
  refine rn_putI hM9 zf_X2_32 k_b0 zd_X2_note_2.1.2.2.1 ?_
  refine rn_aload_n (q := 0) 0 rfl zd_X2_note_2.1.2.2.2 ?_
  refine rn_getI zf_X2_28 (Or.inl rfl) k_a0 zd_X2_note_2.2.1.1.1 ?_
  refine rn_aload_n (q := 0) 0 rfl zd_X2_note_2.2.1.1.2 ?_
  refine rn_getR zf_X2_11 (Or.inr ⟨_, rfl⟩) k_a0 (zx_2_0 hW k_a0) zd_X2_note_2.2.1.2.1 ?_
  refine rn_alen (v := 30) (zw_2_0 hW k_a0) (Or.inr (Or.inr (Or.inr (Or.inr rfl)))) rfl zd_X2_note_2.2.1.2.2 ?_
  rcases zif_e h with ⟨hc10, h⟩ | ⟨hc10, h⟩
  · refine rn_icmp_ge_t (tgt := 95) hc10 zd_X2_note_2.2.2.1.1 rfl ?_
    cases h
    exact rn_vret zd_X2_note_3.2.2 rfl
  · refine rn_icmp_ge_f (tgt := 95) hc10 zd_X2_note_2.2.2.1.1 rfl ?_
    refine rn_aload_n (q := 0) 0 rfl zd_X2_note_2.2.2.1.2 ?_
    refine rn_dup zd_X2_note_2.2.2.2.1 rfl ?_
    refine rn_getI zf_X2_28 (Or.inl rfl) k_a0 zd_X2_note_2.2.2.2.2 ?_
    refine rn_iconst (v := 1) zd_X2_note_3.1.1 rfl ?_
    refine rn_iadd zd_X2_note_3.1.2 ?_
    obtain ⟨M11, hM11, h⟩ := zlt_e h
    refine rn_putI hM11 zf_X2_28 k_a0 zd_X2_note_3.2.1 ?_
    cases h
    exact rn_vret zd_X2_note_3.2.2 rfl
def n_X2_note (R : zR) (M : zM) (L : zL) (a0 : Nat) (a1 : Nat) : Option (zM × zL) :=
  if (M a0 3) < 0 then (
    some (M, L)
  ) else (
    if (30 : Int32) ≤ (M a0 3) then (
      some (M, L)
    ) else (
      zck (zin (M a0 3) 30) <|
      zck (zin (M a0 3) 30) <|
      zbd2 (n_X6_copy R M L (R (R a0 0) (ztn (M a0 3))) a1) fun M5 L6 =>
      if (30 : Int32) ≤ ((M5 a0 3) + (1 : Int32)) then (
        nj_X2_note_70 R M5 L6 a0 a0 (0 : Int32)
      ) else (
        nj_X2_note_70 R M5 L6 a0 a0 ((M5 a0 3) + (1 : Int32))
      )
    )
  )
set_option maxRecDepth 4000 in
theorem ok_X2_note {G : zG} {K : zK} {R : zR} {M : zM} {L : zL} (hW : zWT R K) {a0 : Nat} {a1 : Nat} (k_a0 : K[a0]? = some (2, 5)) (k_a1 : K[a1]? = some (6, 8)) {M' : zM} {L' : zL} (h : n_X2_note R M L a0 a1 = some (M', L')) : Rm G mt_X2_note [.ref a0, .ref a1] (M, L, R, K) none (M', L', R, K) := by
  refine rm_rn rfl rfl (Nat.le_of_ble_eq_true rfl) ?_
  show Rn G mt_X2_note 0 [(0, .ref a0), (1, .ref a1)] [] (M, L, R, K) none (M', L', R, K)
  unfold n_X2_note at h
  refine rn_aload_n (q := 0) 0 rfl zd_X2_note_0.1.1.1.1 ?_
  refine rn_getI zf_X2_32 (Or.inl rfl) k_a0 zd_X2_note_0.1.1.1.2 ?_
  rcases zif_e h with ⟨hc1, h⟩ | ⟨hc1, h⟩
  · refine rn_if_lt_t (tgt := 31) hc1 zd_X2_note_0.1.1.2.1 rfl ?_
    cases h
    exact rn_vret zd_X2_note_0.2.2.2.2 rfl
  · refine rn_if_lt_f (tgt := 31) hc1 zd_X2_note_0.1.1.2.1 rfl ?_
    refine rn_aload_n (q := 0) 0 rfl zd_X2_note_0.1.1.2.2 ?_
    refine rn_getI zf_X2_32 (Or.inl rfl) k_a0 zd_X2_note_0.1.2.1.1 ?_
    refine rn_aload_n (q := 0) 0 rfl zd_X2_note_0.1.2.1.2 ?_
    refine rn_getR zf_X2_11 (Or.inr ⟨_, rfl⟩) k_a0 (zx_2_0 hW k_a0) zd_X2_note_0.1.2.2.1 ?_
    refine rn_alen (v := 30) (zw_2_0 hW k_a0) (Or.inr (Or.inr (Or.inr (Or.inr rfl)))) rfl zd_X2_note_0.1.2.2.2 ?_
    rcases zif_e h with ⟨hc2, h⟩ | ⟨hc2, h⟩
    · refine rn_icmp_ge_t (tgt := 31) hc2 zd_X2_note_0.2.1.1.1 rfl ?_
      cases h
      exact rn_vret zd_X2_note_0.2.2.2.2 rfl
    · refine rn_icmp_ge_f (tgt := 31) hc2 zd_X2_note_0.2.1.1.1 rfl ?_
      refine rn_aload_n (q := 0) 0 rfl zd_X2_note_0.2.1.1.2 ?_
      refine rn_getR zf_X2_11 (Or.inr ⟨_, rfl⟩) k_a0 (zx_2_0 hW k_a0) zd_X2_note_0.2.1.2.1 ?_
      refine rn_aload_n (q := 0) 0 rfl zd_X2_note_0.2.1.2.2 ?_
      refine rn_getI zf_X2_32 (Or.inl rfl) k_a0 zd_X2_note_0.2.2.1.1 ?_
      obtain ⟨hc3, h⟩ := zck_e h
      refine rn_qald (zw_2_0 hW k_a0) hc3 (zne0 hW.1 (zwq hW (zw_2_0 hW k_a0) hc3) (by decide)) zd_X2_note_0.2.2.1.2 ?_
      refine rn_nonnull (tgt := 32) zd_X2_note_0.2.2.2.1 rfl ?_
      refine rn_aload_n (q := 0) 0 rfl zd_X2_note_1.1.1.1.1 ?_
      refine rn_getR zf_X2_11 (Or.inr ⟨_, rfl⟩) k_a0 (zx_2_0 hW k_a0) zd_X2_note_1.1.1.1.2 ?_
      refine rn_aload_n (q := 0) 0 rfl zd_X2_note_1.1.1.2.1 ?_
      refine rn_getI zf_X2_32 (Or.inl rfl) k_a0 zd_X2_note_1.1.1.2.2 ?_
      obtain ⟨hc4, h⟩ := zck_e h
      refine rn_qald (zw_2_0 hW k_a0) hc4 (zne0 hW.1 (zwq hW (zw_2_0 hW k_a0) hc4) (by decide)) zd_X2_note_1.1.2.1.1 ?_
      refine rn_aload_n (q := 1) 1 rfl zd_X2_note_1.1.2.1.2 ?_
      obtain ⟨M5, L6, h7, h⟩ := zbd2_e h
      refine rn_callVv (As := [.ref a1]) (rest := []) zl_X2_35 zm_X6_copy ⟨by decide, by decide⟩ (ci := 6) rfl rfl (by decide) (zwq hW (zw_2_0 hW k_a0) hc4) rfl rfl (Nat.le_of_ble_eq_true rfl) zd_X2_note_1.1.2.2.1 (ok_X6_copy hW (zwq hW (zw_2_0 hW k_a0) hc4) k_a1 h7) ?_
      refine rn_aload_n (q := 0) 0 rfl zd_X2_note_1.1.2.2.2 ?_
      refine rn_aload_n (q := 0) 0 rfl zd_X2_note_1.2.1.1.1 ?_
      refine rn_getI zf_X2_32 (Or.inl rfl) k_a0 zd_X2_note_1.2.1.1.2 ?_
      refine rn_iconst (v := 1) zd_X2_note_1.2.1.2.1 rfl ?_
      refine rn_iadd zd_X2_note_1.2.1.2.2 ?_
      refine rn_aload_n (q := 0) 0 rfl zd_X2_note_1.2.2.1.1 ?_
      refine rn_getR zf_X2_11 (Or.inr ⟨_, rfl⟩) k_a0 (zx_2_0 hW k_a0) zd_X2_note_1.2.2.1.2 ?_
      refine rn_alen (v := 30) (zw_2_0 hW k_a0) (Or.inr (Or.inr (Or.inr (Or.inr rfl)))) rfl zd_X2_note_1.2.2.2.1 ?_
      rcases zif_e h with ⟨hc8, h⟩ | ⟨hc8, h⟩
      · refine rn_icmp_ge_t (tgt := 69) hc8 zd_X2_note_1.2.2.2.2 rfl ?_
        refine rn_iconst (v := 0) zd_X2_note_2.1.2.1.2 rfl ?_
        exact rn_sub (ls' := [(0, .ref a0)]) [0] rfl (ok_j_X2_note_70 hW k_a0 k_a0 h)
      · refine rn_icmp_ge_f (tgt := 69) hc8 zd_X2_note_1.2.2.2.2 rfl ?_
        refine rn_aload_n (q := 0) 0 rfl zd_X2_note_2.1.1.1.1 ?_
        refine rn_getI zf_X2_32 (Or.inl rfl) k_a0 zd_X2_note_2.1.1.1.2 ?_
        refine rn_iconst (v := 1) zd_X2_note_2.1.1.2.1 rfl ?_
        refine rn_iadd zd_X2_note_2.1.1.2.2 ?_
        refine rn_goto (tgt := 70) zd_X2_note_2.1.2.1.1 rfl ?_
        exact rn_sub (ls' := [(0, .ref a0)]) [0] rfl (ok_j_X2_note_70 hW k_a0 k_a0 h)
def nj_X2_takeBack_32 (R : zR) (M : zM) (L : zL) (a0 : Nat) (a1 : Nat) (s0 : Int32) : Option (Int32 × zM × zL) :=
  if (30 : Int32) ≤ s0 then (
    some ((0 : Int32), M, L)
  ) else (
    zck (zin s0 30) <|
    zck (zin s0 30) <|
    zbd2 (n_X6_copy R M L a1 (R (R a0 0) (ztn s0))) fun M6 L7 =>
    zlt (zup M6 a0 3 s0) fun M9 =>
    zlt (zup M9 a0 4 ((M9 a0 4) - (1 : Int32))) fun M10 =>
    some ((1 : Int32), M10, L7)
  )
set_option maxRecDepth 4000 in
theorem ok_j_X2_takeBack_32 {G : zG} {K : zK} {R : zR} {M : zM} {L : zL} (hW : zWT R K) {a0 : Nat} {a1 : Nat} {s0 : Int32} (k_a0 : K[a0]? = some (2, 5)) (k_a1 : K[a1]? = some (6, 8)) {r' : Int32} {M' : zM} {L' : zL} (h : nj_X2_takeBack_32 R M L a0 a1 s0 = some (r', M', L')) : Rn G mt_X2_takeBack 32 [(0, .ref a0), (1, .ref a1)] [.int s0] (M, L, R, K) (some (.int r')) (M', L', R, K) := by
  unfold nj_X2_takeBack_32 at h
  refine rn_istore_n (q := 2) (ls' := [(2, .int s0), (0, .ref a0), (1, .ref a1)]) (by decide) rfl zd_X2_takeBack_1.1.1.2.1 ?_
  refine rn_iload_n (q := 2) 0 rfl zd_X2_takeBack_1.1.1.2.2 ?_
  refine rn_aload_n (q := 0) 1 rfl zd_X2_takeBack_1.1.2.1.1 ?_
  refine rn_getR zf_X2_11 (Or.inr ⟨_, rfl⟩) k_a0 (zx_2_0 hW k_a0) zd_X2_takeBack_1.1.2.1.2 ?_
  refine rn_alen (v := 30) (zw_2_0 hW k_a0) (Or.inr (Or.inr (Or.inr (Or.inr rfl)))) rfl zd_X2_takeBack_1.1.2.2.1 ?_
  rcases zif_e h with ⟨hc3, h⟩ | ⟨hc3, h⟩
  · refine rn_icmp_ge_t (tgt := 51) hc3 zd_X2_takeBack_1.1.2.2.2 rfl ?_
    refine rn_iconst (v := 0) zd_X2_takeBack_1.2.2.1.2 rfl ?_
    cases h
    exact rn_zret zd_X2_takeBack_1.2.2.2.1 rfl rfl
  · refine rn_icmp_ge_f (tgt := 51) hc3 zd_X2_takeBack_1.1.2.2.2 rfl ?_
    refine rn_aload_n (q := 0) 1 rfl zd_X2_takeBack_1.2.1.1.1 ?_
    refine rn_getR zf_X2_11 (Or.inr ⟨_, rfl⟩) k_a0 (zx_2_0 hW k_a0) zd_X2_takeBack_1.2.1.1.2 ?_
    refine rn_iload_n (q := 2) 0 rfl zd_X2_takeBack_1.2.1.2.1 ?_
    obtain ⟨hc4, h⟩ := zck_e h
    refine rn_qald (zw_2_0 hW k_a0) hc4 (zne0 hW.1 (zwq hW (zw_2_0 hW k_a0) hc4) (by decide)) zd_X2_takeBack_1.2.1.2.2 ?_
    refine rn_nonnull (tgt := 53) zd_X2_takeBack_1.2.2.1.1 rfl ?_
    refine rn_aload_n (q := 1) 2 rfl zd_X2_takeBack_1.2.2.2.2 ?_
    refine rn_aload_n (q := 0) 1 rfl zd_X2_takeBack_2.1.1.1.1 ?_
    refine rn_getR zf_X2_11 (Or.inr ⟨_, rfl⟩) k_a0 (zx_2_0 hW k_a0) zd_X2_takeBack_2.1.1.1.2 ?_
    refine rn_iload_n (q := 2) 0 rfl zd_X2_takeBack_2.1.1.2.1 ?_
    obtain ⟨hc5, h⟩ := zck_e h
    refine rn_qald (zw_2_0 hW k_a0) hc5 (zne0 hW.1 (zwq hW (zw_2_0 hW k_a0) hc5) (by decide)) zd_X2_takeBack_2.1.1.2.2 ?_
    obtain ⟨M6, L7, h8, h⟩ := zbd2_e h
    refine rn_callVv (As := [.ref (R (R a0 0) (ztn s0))]) (rest := []) zl_X2_35 zm_X6_copy ⟨by decide, by decide⟩ (ci := 6) rfl rfl (by decide) k_a1 rfl rfl (Nat.le_of_ble_eq_true rfl) zd_X2_takeBack_2.1.2.1.1 (ok_X6_copy hW k_a1 (zwq hW (zw_2_0 hW k_a0) hc5) h8) ?_
    refine rn_aload_n (q := 0) 1 rfl zd_X2_takeBack_2.1.2.1.2 ?_
    refine rn_iload_n (q := 2) 0 rfl zd_X2_takeBack_2.1.2.2.1 ?_
    obtain ⟨M9, hM9, h⟩ := zlt_e h
    refine rn_putI hM9 zf_X2_32 k_a0 zd_X2_takeBack_2.1.2.2.2 ?_
    refine rn_aload_n (q := 0) 1 rfl zd_X2_takeBack_2.2.1.1.1 ?_
    refine rn_dup zd_X2_takeBack_2.2.1.1.2 rfl ?_
    refine rn_getI zf_X2_28 (Or.inl rfl) k_a0 zd_X2_takeBack_2.2.1.2.1 ?_
    refine rn_iconst (v := 1) zd_X2_takeBack_2.2.1.2.2 rfl ?_
    refine rn_isub zd_X2_takeBack_2.2.2.1.1 ?_
    obtain ⟨M10, hM10, h⟩ := zlt_e h
    refine rn_putI hM10 zf_X2_28 k_a0 zd_X2_takeBack_2.2.2.1.2 ?_
    refine rn_iconst (v := 1) zd_X2_takeBack_2.2.2.2.1 rfl ?_
    cases h
    exact rn_zret zd_X2_takeBack_2.2.2.2.2 rfl rfl
def n_X2_takeBack (R : zR) (M : zM) (L : zL) (a0 : Nat) (a1 : Nat) : Option (Int32 × zM × zL) :=
  if 0 < (M a0 4) then (
    if (M a0 3) ≤ 0 then (
      nj_X2_takeBack_32 R M L a0 a1 ((30 : Int32) - (1 : Int32))
    ) else (
      nj_X2_takeBack_32 R M L a0 a1 ((M a0 3) - (1 : Int32))
    )
  ) else (
    some ((0 : Int32), M, L)
  )
set_option maxRecDepth 4000 in
theorem ok_X2_takeBack {G : zG} {K : zK} {R : zR} {M : zM} {L : zL} (hW : zWT R K) {a0 : Nat} {a1 : Nat} (k_a0 : K[a0]? = some (2, 5)) (k_a1 : K[a1]? = some (6, 8)) {r' : Int32} {M' : zM} {L' : zL} (h : n_X2_takeBack R M L a0 a1 = some (r', M', L')) : Rm G mt_X2_takeBack [.ref a0, .ref a1] (M, L, R, K) (some (.int r')) (M', L', R, K) := by
  refine rm_rn rfl rfl (Nat.le_of_ble_eq_true rfl) ?_
  show Rn G mt_X2_takeBack 0 [(0, .ref a0), (1, .ref a1)] [] (M, L, R, K) (some (.int r')) (M', L', R, K)
  unfold n_X2_takeBack at h
  refine rn_aload_n (q := 0) 0 rfl zd_X2_takeBack_0.1.1.1.1 ?_
  refine rn_getI zf_X2_28 (Or.inl rfl) k_a0 zd_X2_takeBack_0.1.1.1.2 ?_
  rcases zif_e h with ⟨hc1, h⟩ | ⟨hc1, h⟩
  · refine rn_if_gt_t (tgt := 9) hc1 zd_X2_takeBack_0.1.1.2.1 rfl ?_
    refine rn_aload_n (q := 0) 0 rfl zd_X2_takeBack_0.1.2.1.2 ?_
    refine rn_getI zf_X2_32 (Or.inl rfl) k_a0 zd_X2_takeBack_0.1.2.2.1 ?_
    rcases zif_e h with ⟨hc2, h⟩ | ⟨hc2, h⟩
    · refine rn_if_le_t (tgt := 25) hc2 zd_X2_takeBack_0.1.2.2.2 rfl ?_
      refine rn_aload_n (q := 0) 0 rfl zd_X2_takeBack_0.2.2.1.2 ?_
      refine rn_getR zf_X2_11 (Or.inr ⟨_, rfl⟩) k_a0 (zx_2_0 hW k_a0) zd_X2_takeBack_0.2.2.2.1 ?_
      refine rn_alen (v := 30) (zw_2_0 hW k_a0) (Or.inr (Or.inr (Or.inr (Or.inr rfl)))) rfl zd_X2_takeBack_0.2.2.2.2 ?_
      refine rn_iconst (v := 1) zd_X2_takeBack_1.1.1.1.1 rfl ?_
      refine rn_isub zd_X2_takeBack_1.1.1.1.2 ?_
      exact rn_sub (ls' := [(0, .ref a0), (1, .ref a1)]) [0, 1] rfl (ok_j_X2_takeBack_32 hW k_a0 k_a1 h)
    · refine rn_if_le_f (tgt := 25) hc2 zd_X2_takeBack_0.1.2.2.2 rfl ?_
      refine rn_aload_n (q := 0) 0 rfl zd_X2_takeBack_0.2.1.1.1 ?_
      refine rn_getI zf_X2_32 (Or.inl rfl) k_a0 zd_X2_takeBack_0.2.1.1.2 ?_
      refine rn_iconst (v := 1) zd_X2_takeBack_0.2.1.2.1 rfl ?_
      refine rn_isub zd_X2_takeBack_0.2.1.2.2 ?_
      refine rn_goto (tgt := 32) zd_X2_takeBack_0.2.2.1.1 rfl ?_
      exact rn_sub (ls' := [(0, .ref a0), (1, .ref a1)]) [0, 1] rfl (ok_j_X2_takeBack_32 hW k_a0 k_a1 h)
  · refine rn_if_gt_f (tgt := 9) hc1 zd_X2_takeBack_0.1.1.2.1 rfl ?_
    refine rn_iconst (v := 0) zd_X2_takeBack_0.1.1.2.2 rfl ?_
    cases h
    exact rn_zret zd_X2_takeBack_0.1.2.1.1 rfl rfl
def n_X2_holdIn (R : zR) (M : zM) (L : zL) (a0 : Nat) (x1 : Int32) (a2 : Nat) : Option (Int32 × zM × zL) :=
  if x1 < 0 then (
    some ((0 : Int32), M, L)
  ) else (
    if (3 : Int32) ≤ x1 then (
      some ((0 : Int32), M, L)
    ) else (
      zck (zin x1 3) <|
      zck (zin x1 3) <|
      zbd2 (n_X6_copy R M L (R (R a0 1) (ztn x1)) a2) fun M5 L6 =>
      zck (zin x1 3) <|
      zlt (zup M5 (R a0 2) (ztn x1) (1 : Int32)) fun M9 =>
      some ((1 : Int32), M9, L6)
    )
  )
set_option maxRecDepth 4000 in
theorem ok_X2_holdIn {G : zG} {K : zK} {R : zR} {M : zM} {L : zL} (hW : zWT R K) {a0 : Nat} {x1 : Int32} {a2 : Nat} (k_a0 : K[a0]? = some (2, 5)) (k_a2 : K[a2]? = some (6, 8)) {r' : Int32} {M' : zM} {L' : zL} (h : n_X2_holdIn R M L a0 x1 a2 = some (r', M', L')) : Rm G mt_X2_holdIn [.ref a0, .int x1, .ref a2] (M, L, R, K) (some (.int r')) (M', L', R, K) := by
  refine rm_rn rfl rfl (Nat.le_of_ble_eq_true rfl) ?_
  show Rn G mt_X2_holdIn 0 [(0, .ref a0), (1, .int x1), (2, .ref a2)] [] (M, L, R, K) (some (.int r')) (M', L', R, K)
  unfold n_X2_holdIn at h
  refine rn_iload_n (q := 1) 1 rfl zd_X2_holdIn_0.1.1.1.1 ?_
  rcases zif_e h with ⟨hc1, h⟩ | ⟨hc1, h⟩
  · refine rn_if_lt_t (tgt := 22) hc1 zd_X2_holdIn_0.1.1.1.2 rfl ?_
    refine rn_iconst (v := 0) zd_X2_holdIn_0.2.2.1.1 rfl ?_
    cases h
    exact rn_zret zd_X2_holdIn_0.2.2.1.2 rfl rfl
  · refine rn_if_lt_f (tgt := 22) hc1 zd_X2_holdIn_0.1.1.1.2 rfl ?_
    refine rn_iload_n (q := 1) 1 rfl zd_X2_holdIn_0.1.1.2.1 ?_
    refine rn_aload_n (q := 0) 0 rfl zd_X2_holdIn_0.1.1.2.2 ?_
    refine rn_getR zf_X2_17 (Or.inr ⟨_, rfl⟩) k_a0 (zx_2_1 hW k_a0) zd_X2_holdIn_0.1.2.1.1 ?_
    refine rn_alen (v := 3) (zw_2_1 hW k_a0) (Or.inr (Or.inr (Or.inr (Or.inr rfl)))) rfl zd_X2_holdIn_0.1.2.1.2 ?_
    rcases zif_e h with ⟨hc2, h⟩ | ⟨hc2, h⟩
    · refine rn_icmp_ge_t (tgt := 22) hc2 zd_X2_holdIn_0.1.2.2.1 rfl ?_
      refine rn_iconst (v := 0) zd_X2_holdIn_0.2.2.1.1 rfl ?_
      cases h
      exact rn_zret zd_X2_holdIn_0.2.2.1.2 rfl rfl
    · refine rn_icmp_ge_f (tgt := 22) hc2 zd_X2_holdIn_0.1.2.2.1 rfl ?_
      refine rn_aload_n (q := 0) 0 rfl zd_X2_holdIn_0.1.2.2.2 ?_
      refine rn_getR zf_X2_17 (Or.inr ⟨_, rfl⟩) k_a0 (zx_2_1 hW k_a0) zd_X2_holdIn_0.2.1.1.1 ?_
      refine rn_iload_n (q := 1) 1 rfl zd_X2_holdIn_0.2.1.1.2 ?_
      obtain ⟨hc3, h⟩ := zck_e h
      refine rn_qald (zw_2_1 hW k_a0) hc3 (zne0 hW.1 (zwq hW (zw_2_1 hW k_a0) hc3) (by decide)) zd_X2_holdIn_0.2.1.2.1 ?_
      refine rn_nonnull (tgt := 24) zd_X2_holdIn_0.2.1.2.2 rfl ?_
      refine rn_aload_n (q := 0) 0 rfl zd_X2_holdIn_0.2.2.2.1 ?_
      refine rn_getR zf_X2_17 (Or.inr ⟨_, rfl⟩) k_a0 (zx_2_1 hW k_a0) zd_X2_holdIn_0.2.2.2.2 ?_
      refine rn_iload_n (q := 1) 1 rfl zd_X2_holdIn_1.1.1.1 ?_
      obtain ⟨hc4, h⟩ := zck_e h
      refine rn_qald (zw_2_1 hW k_a0) hc4 (zne0 hW.1 (zwq hW (zw_2_1 hW k_a0) hc4) (by decide)) zd_X2_holdIn_1.1.1.2 ?_
      refine rn_aload_n (q := 2) 2 rfl zd_X2_holdIn_1.1.2.1 ?_
      obtain ⟨M5, L6, h7, h⟩ := zbd2_e h
      refine rn_callVv (As := [.ref a2]) (rest := []) zl_X2_35 zm_X6_copy ⟨by decide, by decide⟩ (ci := 6) rfl rfl (by decide) (zwq hW (zw_2_1 hW k_a0) hc4) rfl rfl (Nat.le_of_ble_eq_true rfl) zd_X2_holdIn_1.1.2.2.1 (ok_X6_copy hW (zwq hW (zw_2_1 hW k_a0) hc4) k_a2 h7) ?_
      refine rn_aload_n (q := 0) 0 rfl zd_X2_holdIn_1.1.2.2.2 ?_
      refine rn_getR zf_X2_20 (Or.inr ⟨_, rfl⟩) k_a0 (zx_2_2 hW k_a0) zd_X2_holdIn_1.2.1.1 ?_
      refine rn_iload_n (q := 1) 1 rfl zd_X2_holdIn_1.2.1.2.1 ?_
      refine rn_iconst (v := 1) zd_X2_holdIn_1.2.1.2.2 rfl ?_
      obtain ⟨hc8, h⟩ := zck_e h
      obtain ⟨M9, hM9, h⟩ := zlt_e h
      refine rn_zast rfl hM9 (zw_2_2 hW k_a0) hc8 zd_X2_holdIn_1.2.2.1 ?_
      refine rn_iconst (v := 1) zd_X2_holdIn_1.2.2.2.1 rfl ?_
      cases h
      exact rn_zret zd_X2_holdIn_1.2.2.2.2 rfl rfl
def f_X2_isHeld (R : zR) (M : zM) (a0 : Nat) (x1 : Int32) : Option (Int32) :=
  if x1 < 0 then (
    some (0 : Int32)
  ) else (
    if (3 : Int32) ≤ x1 then (
      some (0 : Int32)
    ) else (
      zck (zin x1 3) <|
      if (M (R a0 2) (ztn x1)) = 0 then (
        some (0 : Int32)
      ) else (
        some (1 : Int32)
      )
    )
  )
set_option maxRecDepth 4000 in
theorem ok_X2_isHeld {G : zG} {K : zK} {R : zR} {M : zM} {L : zL} (hW : zWT R K) {a0 : Nat} {x1 : Int32} (k_a0 : K[a0]? = some (2, 5)) {r' : Int32} (h : f_X2_isHeld R M a0 x1 = some r') : Rm G mt_X2_isHeld [.ref a0, .int x1] (M, L, R, K) (some (.int r')) (M, L, R, K) := by
  refine rm_rn rfl rfl (Nat.le_of_ble_eq_true rfl) ?_
  show Rn G mt_X2_isHeld 0 [(0, .ref a0), (1, .int x1)] [] (M, L, R, K) (some (.int r')) (M, L, R, K)
  unfold f_X2_isHeld at h
  refine rn_iload_n (q := 1) 1 rfl zd_X2_isHeld_0.1.1.1 ?_
  rcases zif_e h with ⟨hc1, h⟩ | ⟨hc1, h⟩
  · refine rn_if_lt_t (tgt := 22) hc1 zd_X2_isHeld_0.1.1.2.1 rfl ?_
    refine rn_iconst (v := 0) zd_X2_isHeld_0.2.2.2.1 rfl ?_
    cases h
    exact rn_zret zd_X2_isHeld_0.2.2.2.2 rfl rfl
  · refine rn_if_lt_f (tgt := 22) hc1 zd_X2_isHeld_0.1.1.2.1 rfl ?_
    refine rn_iload_n (q := 1) 1 rfl zd_X2_isHeld_0.1.1.2.2 ?_
    refine rn_iconst (v := 3) zd_X2_isHeld_0.1.2.1.1 rfl ?_
    rcases zif_e h with ⟨hc2, h⟩ | ⟨hc2, h⟩
    · refine rn_icmp_ge_t (tgt := 22) hc2 zd_X2_isHeld_0.1.2.1.2 rfl ?_
      refine rn_iconst (v := 0) zd_X2_isHeld_0.2.2.2.1 rfl ?_
      cases h
      exact rn_zret zd_X2_isHeld_0.2.2.2.2 rfl rfl
    · refine rn_icmp_ge_f (tgt := 22) hc2 zd_X2_isHeld_0.1.2.1.2 rfl ?_
      refine rn_aload_n (q := 0) 0 rfl zd_X2_isHeld_0.1.2.2.1 ?_
      refine rn_getR zf_X2_20 (Or.inr ⟨_, rfl⟩) k_a0 (zx_2_2 hW k_a0) zd_X2_isHeld_0.1.2.2.2 ?_
      refine rn_iload_n (q := 1) 1 rfl zd_X2_isHeld_0.2.1.1 ?_
      obtain ⟨hc3, h⟩ := zck_e h
      refine rn_zald (zw_2_2 hW k_a0) hc3 zd_X2_isHeld_0.2.1.2.1 ?_
      rcases zif_e h with ⟨hc4, h⟩ | ⟨hc4, h⟩
      · refine rn_if_eq_t (tgt := 22) hc4 zd_X2_isHeld_0.2.1.2.2 rfl ?_
        refine rn_iconst (v := 0) zd_X2_isHeld_0.2.2.2.1 rfl ?_
        cases h
        exact rn_zret zd_X2_isHeld_0.2.2.2.2 rfl rfl
      · refine rn_if_eq_f (tgt := 22) hc4 zd_X2_isHeld_0.2.1.2.2 rfl ?_
        refine rn_iconst (v := 1) zd_X2_isHeld_0.2.2.1.1 rfl ?_
        refine rn_goto (tgt := 23) zd_X2_isHeld_0.2.2.1.2 rfl ?_
        cases h
        exact rn_zret zd_X2_isHeld_0.2.2.2.2 rfl rfl
def n_X2_bringBack (R : zR) (M : zM) (L : zL) (a0 : Nat) (x1 : Int32) (a2 : Nat) : Option (Int32 × zM × zL) :=
  zbd (f_X2_isHeld R M a0 x1) fun r1 =>
  if r1 = 0 then (
    some ((0 : Int32), M, L)
  ) else (
    zck (zin x1 3) <|
    zck (zin x1 3) <|
    zbd2 (n_X6_copy R M L a2 (R (R a0 1) (ztn x1))) fun M6 L7 =>
    some ((1 : Int32), M6, L7)
  )
set_option maxRecDepth 4000 in
theorem ok_X2_bringBack {G : zG} {K : zK} {R : zR} {M : zM} {L : zL} (hW : zWT R K) {a0 : Nat} {x1 : Int32} {a2 : Nat} (k_a0 : K[a0]? = some (2, 5)) (k_a2 : K[a2]? = some (6, 8)) {r' : Int32} {M' : zM} {L' : zL} (h : n_X2_bringBack R M L a0 x1 a2 = some (r', M', L')) : Rm G mt_X2_bringBack [.ref a0, .int x1, .ref a2] (M, L, R, K) (some (.int r')) (M', L', R, K) := by
  refine rm_rn rfl rfl (Nat.le_of_ble_eq_true rfl) ?_
  show Rn G mt_X2_bringBack 0 [(0, .ref a0), (1, .int x1), (2, .ref a2)] [] (M, L, R, K) (some (.int r')) (M', L', R, K)
  unfold n_X2_bringBack at h
  refine rn_aload_n (q := 0) 0 rfl zd_X2_bringBack_0.1.1.1.1 ?_
  refine rn_iload_n (q := 1) 1 rfl zd_X2_bringBack_0.1.1.1.2 ?_
  obtain ⟨r1, h2, h⟩ := zbd_e h
  refine rn_callVi (As := [.int x1]) (rest := []) zl_X2_39 zm_X2_isHeld ⟨by decide, by decide⟩ (ci := 2) rfl rfl (by decide) k_a0 rfl rfl (Nat.le_of_ble_eq_true rfl) zd_X2_bringBack_0.1.1.2.1 (ok_X2_isHeld hW k_a0 h2) ?_
  rcases zif_e h with ⟨hc3, h⟩ | ⟨hc3, h⟩
  · refine rn_if_eq_t (tgt := 17) hc3 zd_X2_bringBack_0.1.1.2.2 rfl ?_
    refine rn_iconst (v := 0) zd_X2_bringBack_0.2.1.1.2 rfl ?_
    cases h
    exact rn_zret zd_X2_bringBack_0.2.1.2.1 rfl rfl
  · refine rn_if_eq_f (tgt := 17) hc3 zd_X2_bringBack_0.1.1.2.2 rfl ?_
    refine rn_aload_n (q := 0) 0 rfl zd_X2_bringBack_0.1.2.1.1 ?_
    refine rn_getR zf_X2_17 (Or.inr ⟨_, rfl⟩) k_a0 (zx_2_1 hW k_a0) zd_X2_bringBack_0.1.2.1.2 ?_
    refine rn_iload_n (q := 1) 1 rfl zd_X2_bringBack_0.1.2.2.1 ?_
    obtain ⟨hc4, h⟩ := zck_e h
    refine rn_qald (zw_2_1 hW k_a0) hc4 (zne0 hW.1 (zwq hW (zw_2_1 hW k_a0) hc4) (by decide)) zd_X2_bringBack_0.1.2.2.2 ?_
    refine rn_nonnull (tgt := 19) zd_X2_bringBack_0.2.1.1.1 rfl ?_
    refine rn_aload_n (q := 2) 2 rfl zd_X2_bringBack_0.2.1.2.2 ?_
    refine rn_aload_n (q := 0) 0 rfl zd_X2_bringBack_0.2.2.1.1 ?_
    refine rn_getR zf_X2_17 (Or.inr ⟨_, rfl⟩) k_a0 (zx_2_1 hW k_a0) zd_X2_bringBack_0.2.2.1.2 ?_
    refine rn_iload_n (q := 1) 1 rfl zd_X2_bringBack_0.2.2.2.1 ?_
    obtain ⟨hc5, h⟩ := zck_e h
    refine rn_qald (zw_2_1 hW k_a0) hc5 (zne0 hW.1 (zwq hW (zw_2_1 hW k_a0) hc5) (by decide)) zd_X2_bringBack_0.2.2.2.2 ?_
    obtain ⟨M6, L7, h8, h⟩ := zbd2_e h
    refine rn_callVv (As := [.ref (R (R a0 1) (ztn x1))]) (rest := []) zl_X2_35 zm_X6_copy ⟨by decide, by decide⟩ (ci := 6) rfl rfl (by decide) k_a2 rfl rfl (Nat.le_of_ble_eq_true rfl) zd_X2_bringBack_1.1 (ok_X6_copy hW k_a2 (zwq hW (zw_2_1 hW k_a0) hc5) h8) ?_
    refine rn_iconst (v := 1) zd_X2_bringBack_1.2.1 rfl ?_
    cases h
    exact rn_zret zd_X2_bringBack_1.2.2 rfl rfl
abbrev P_X2_heldSlots_4 (G : zG) (K : zK) (R : zR) (M : zM) (L : zL) (a0 : Nat) (r : Option Value) (S' : zS) (v : Int32 × Int32) : Prop := Rn G mt_X2_heldSlots 4 [(0, .ref a0), (1, .int v.1), (2, .int v.2)] [] (M, L, R, K) r S'
abbrev Q_X2_heldSlots_4 (G : zG) (K : zK) (R : zR) (M : zM) (L : zL) (a0 : Nat) (r : Option Value) (S' : zS) : (Int32) → Prop := (fun e => Rn G mt_X2_heldSlots 30 [(1, .int e)] [] (M, L, R, K) r S')
def b_X2_heldSlots_4 (R : zR) (M : zM) (a0 : Nat) (x1 : Int32) (x2 : Int32) : Option ((Int32 × Int32) ⊕ ((Int32))) :=
  if (3 : Int32) ≤ x2 then (
    some (.inr x1)
  ) else (
    zbd (f_X2_isHeld R M a0 x2) fun r2 =>
    if r2 = 0 then (
      some (.inl (x1, (x2 + 1)))
    ) else (
      some (.inl ((x1 + 1), (x2 + 1)))
    )
  )
set_option maxRecDepth 4000 in
theorem ok_b_X2_heldSlots_4 {G : zG} {K : zK} {R : zR} {M : zM} {L : zL} (hW : zWT R K) {a0 : Nat} {x1 : Int32} {x2 : Int32} (k_a0 : K[a0]? = some (2, 5)) {r : Option Value} {S' : zS} {x : (Int32 × Int32) ⊕ ((Int32))} (h : b_X2_heldSlots_4 R M a0 x1 x2 = some x) (hk : Sum.elim (P_X2_heldSlots_4 G K R M L a0 r S') (Q_X2_heldSlots_4 G K R M L a0 r S') x) : P_X2_heldSlots_4 G K R M L a0 r S' (x1, x2) := by
  show Rn G mt_X2_heldSlots 4 [(0, .ref a0), (1, .int x1), (2, .int x2)] [] (M, L, R, K) r S'
  unfold b_X2_heldSlots_4 at h
  refine rn_iload_n (q := 2) 2 rfl zd_X2_heldSlots_0.1.2.1.1 ?_
  refine rn_aload_n (q := 0) 0 rfl zd_X2_heldSlots_0.1.2.1.2 ?_
  refine rn_getR zf_X2_17 (Or.inr ⟨_, rfl⟩) k_a0 (zx_2_1 hW k_a0) zd_X2_heldSlots_0.1.2.2.1 ?_
  refine rn_alen (v := 3) (zw_2_1 hW k_a0) (Or.inr (Or.inr (Or.inr (Or.inr rfl)))) rfl zd_X2_heldSlots_0.1.2.2.2 ?_
  rcases zif_e h with ⟨hc1, h⟩ | ⟨hc1, h⟩
  · refine rn_icmp_ge_t (tgt := 30) hc1 zd_X2_heldSlots_0.2.1.1.1 rfl ?_
    cases h
    exact rn_sub (ls' := [(1, .int x1)]) [1] rfl hk
  · refine rn_icmp_ge_f (tgt := 30) hc1 zd_X2_heldSlots_0.2.1.1.1 rfl ?_
    refine rn_aload_n (q := 0) 0 rfl zd_X2_heldSlots_0.2.1.1.2 ?_
    refine rn_iload_n (q := 2) 2 rfl zd_X2_heldSlots_0.2.1.2.1 ?_
    obtain ⟨r2, h3, h⟩ := zbd_e h
    refine rn_callVi (As := [.int x2]) (rest := []) zl_X2_39 zm_X2_isHeld ⟨by decide, by decide⟩ (ci := 2) rfl rfl (by decide) k_a0 rfl rfl (Nat.le_of_ble_eq_true rfl) zd_X2_heldSlots_0.2.1.2.2 (ok_X2_isHeld hW k_a0 h3) ?_
    rcases zif_e h with ⟨hc4, h⟩ | ⟨hc4, h⟩
    · refine rn_if_eq_t (tgt := 24) hc4 zd_X2_heldSlots_0.2.2.1.1 rfl ?_
      refine rn_iinc (v := (x2 + 1)) (ls' := [(2, .int (x2 + 1)), (0, .ref a0), (1, .int x1)]) 2 rfl rfl (by decide) rfl zd_X2_heldSlots_0.2.2.2.1 ?_
      refine rn_goto (tgt := 4) zd_X2_heldSlots_0.2.2.2.2 rfl ?_
      cases h
      exact rn_sub (ls' := [(0, .ref a0), (1, .int x1), (2, .int (x2 + 1))]) [1, 2, 0] rfl hk
    · refine rn_if_eq_f (tgt := 24) hc4 zd_X2_heldSlots_0.2.2.1.1 rfl ?_
      refine rn_iinc (v := (x1 + 1)) (ls' := [(1, .int (x1 + 1)), (0, .ref a0), (2, .int x2)]) 1 rfl rfl (by decide) rfl zd_X2_heldSlots_0.2.2.1.2 ?_
      refine rn_iinc (v := (x2 + 1)) (ls' := [(2, .int (x2 + 1)), (1, .int (x1 + 1)), (0, .ref a0)]) 2 rfl rfl (by decide) rfl zd_X2_heldSlots_0.2.2.2.1 ?_
      refine rn_goto (tgt := 4) zd_X2_heldSlots_0.2.2.2.2 rfl ?_
      cases h
      exact rn_sub (ls' := [(0, .ref a0), (1, .int (x1 + 1)), (2, .int (x2 + 1))]) [2, 1, 0] rfl hk
def f_X2_heldSlots (R : zR) (M : zM) (a0 : Nat) : Option (Int32) :=
  zbd (zloop zN (fun v => b_X2_heldSlots_4 R M a0 v.1 v.2) ((0 : Int32), (0 : Int32))) fun e5 =>
  some e5
set_option maxRecDepth 4000 in
theorem ok_X2_heldSlots {G : zG} {K : zK} {R : zR} {M : zM} {L : zL} (hW : zWT R K) {a0 : Nat} (k_a0 : K[a0]? = some (2, 5)) {r' : Int32} (h : f_X2_heldSlots R M a0 = some r') : Rm G mt_X2_heldSlots [.ref a0] (M, L, R, K) (some (.int r')) (M, L, R, K) := by
  refine rm_rn rfl rfl (Nat.le_of_ble_eq_true rfl) ?_
  show Rn G mt_X2_heldSlots 0 [(0, .ref a0)] [] (M, L, R, K) (some (.int r')) (M, L, R, K)
  unfold f_X2_heldSlots at h
  refine rn_iconst (v := 0) zd_X2_heldSlots_0.1.1.1.1 rfl ?_
  refine rn_istore_n (q := 1) (ls' := [(1, .int (0 : Int32)), (0, .ref a0)]) (by decide) rfl zd_X2_heldSlots_0.1.1.1.2 ?_
  refine rn_iconst (v := 0) zd_X2_heldSlots_0.1.1.2.1 rfl ?_
  refine rn_istore_n (q := 2) (ls' := [(2, .int (0 : Int32)), (1, .int (0 : Int32)), (0, .ref a0)]) (by decide) rfl zd_X2_heldSlots_0.1.1.2.2 ?_
  obtain ⟨e5, he5, h⟩ := zbd_e h
  refine rn_sub (ls' := [(0, .ref a0), (1, .int (0 : Int32)), (2, .int (0 : Int32))]) [2, 1, 0] rfl (zloop_ok (P := P_X2_heldSlots_4 G K R M L a0 (some (.int r')) (M, L, R, K)) (Q := Q_X2_heldSlots_4 G K R M L a0 (some (.int r')) (M, L, R, K)) (fun v x hx hq => ok_b_X2_heldSlots_4 hW k_a0 hx hq) _ _ _ he5 ?_)
  show Rn G mt_X2_heldSlots 30 [(1, .int e5)] [] (M, L, R, K) (some (.int r')) (M, L, R, K)
  refine rn_iload_n (q := 1) 0 rfl zd_X2_heldSlots_1.1 ?_
  cases h
  exact rn_iret zd_X2_heldSlots_1.2 rfl
abbrev P_X4_follow_11 (G : zG) (K : zK) (R : zR) (L : zL) (a0 : Nat) (a1 : Nat) (x3 : Int32) (x4 : Int32) (r : Option Value) (S' : zS) (v : Int32 × zM) : Prop := Rn G mt_X4_follow 11 [(0, .ref a0), (1, .ref a1), (3, .int x3), (4, .int x4), (5, .int v.1)] [] (v.2, L, R, K) r S'
abbrev Q_X4_follow_11 (G : zG) (K : zK) (R : zR) (L : zL) (a0 : Nat) (a1 : Nat) (x3 : Int32) (x4 : Int32) (r : Option Value) (S' : zS) : (zM) → Prop := (fun e => Rn G mt_X4_follow 75 [(0, .ref a0), (1, .ref a1), (4, .int x4)] [] (e, L, R, K) r S')
def nj_X4_follow_68 (R : zR) (M : zM) (L : zL) (a0 : Nat) (a1 : Nat) (x3 : Int32) (x4 : Int32) (x5 : Int32) (b0 : Nat) (s1 : Int32) (s2 : Int32) : Option ((Int32 × zM) ⊕ ((zM))) :=
  zck (zin s1 10) <|
  zlt (zup M b0 (ztn s1) s2) fun M10 =>
  some (.inl ((x5 + 1), M10))
set_option maxRecDepth 4000 in
theorem ok_j_X4_follow_68 {G : zG} {K : zK} {R : zR} {M : zM} {L : zL} (hW : zWT R K) {a0 : Nat} {a1 : Nat} {x3 : Int32} {x4 : Int32} {x5 : Int32} {b0 : Nat} {s1 : Int32} {s2 : Int32} (k_a0 : K[a0]? = some (4, 2)) (k_a1 : K[a1]? = some (7, 11)) (k_b0 : K[b0]? = some (20, 10)) {r : Option Value} {S' : zS} {x : (Int32 × zM) ⊕ ((zM))} (h : nj_X4_follow_68 R M L a0 a1 x3 x4 x5 b0 s1 s2 = some x) (hk : Sum.elim (P_X4_follow_11 G K R L a0 a1 x3 x4 r S') (Q_X4_follow_11 G K R L a0 a1 x3 x4 r S') x) : Rn G mt_X4_follow 68 [(0, .ref a0), (1, .ref a1), (3, .int x3), (4, .int x4), (5, .int x5)] [.int s2, .int s1, .ref b0] (M, L, R, K) r S' := by
  unfold nj_X4_follow_68 at h
  obtain ⟨hc9, h⟩ := zck_e h
  obtain ⟨M10, hM10, h⟩ := zlt_e h
  refine rn_iast hM10 k_b0 hc9 zd_X4_follow_2.1.1.2.1 ?_
  refine rn_iinc (v := (x5 + 1)) (ls' := [(5, .int (x5 + 1)), (0, .ref a0), (1, .ref a1), (3, .int x3), (4, .int x4)]) 4 rfl rfl (by decide) rfl zd_X4_follow_2.1.1.2.2 ?_
  refine rn_goto (tgt := 11) zd_X4_follow_2.1.2.1.1 rfl ?_
  cases h
  exact rn_sub (ls' := [(0, .ref a0), (1, .ref a1), (3, .int x3), (4, .int x4), (5, .int (x5 + 1))]) [1, 2, 3, 4, 0] rfl hk
def nb_X4_follow_11 (R : zR) (M : zM) (L : zL) (a0 : Nat) (a1 : Nat) (x3 : Int32) (x4 : Int32) (x5 : Int32) : Option ((Int32 × zM) ⊕ ((zM))) :=
  if (10 : Int32) ≤ x5 then (
    some (.inr M)
  ) else (
    zbd (f_X6_has M (R a0 0) x5) fun r5 =>
    if r5 = 0 then (
      some (.inr M)
    ) else (
      if ((x4 >>> (x5 &&& 31)) &&& (1 : Int32)) = (1 : Int32) then (
        zck (zin x5 10) <|
        nj_X4_follow_68 R M L a0 a1 x3 x4 x5 (R (R a0 0) 1) x5 (if (M (R (R a0 0) 0) (ztn x5)) < x3 then (M (R (R a0 0) 0) (ztn x5)) else x3)
      ) else (
        nj_X4_follow_68 R M L a0 a1 x3 x4 x5 (R (R a0 0) 1) x5 (0 : Int32)
      )
    )
  )
set_option maxRecDepth 4000 in
theorem ok_b_X4_follow_11 {G : zG} {K : zK} {R : zR} {M : zM} {L : zL} (hW : zWT R K) {a0 : Nat} {a1 : Nat} {x3 : Int32} {x4 : Int32} {x5 : Int32} (k_a0 : K[a0]? = some (4, 2)) (k_a1 : K[a1]? = some (7, 11)) {r : Option Value} {S' : zS} {x : (Int32 × zM) ⊕ ((zM))} (h : nb_X4_follow_11 R M L a0 a1 x3 x4 x5 = some x) (hk : Sum.elim (P_X4_follow_11 G K R L a0 a1 x3 x4 r S') (Q_X4_follow_11 G K R L a0 a1 x3 x4 r S') x) : P_X4_follow_11 G K R L a0 a1 x3 x4 r S' (x5, M) := by
  show Rn G mt_X4_follow 11 [(0, .ref a0), (1, .ref a1), (3, .int x3), (4, .int x4), (5, .int x5)] [] (M, L, R, K) r S'
  unfold nb_X4_follow_11 at h
  refine rn_iload 4 rfl zd_X4_follow_0.1.2.2.1 ?_
  refine rn_bipush (v := 10) zd_X4_follow_0.1.2.2.2 rfl ?_
  rcases zif_e h with ⟨hc4, h⟩ | ⟨hc4, h⟩
  · refine rn_icmp_ge_t (tgt := 75) hc4 zd_X4_follow_0.2.1.1.1 rfl ?_
    cases h
    exact rn_sub (ls' := [(0, .ref a0), (1, .ref a1), (4, .int x4)]) [0, 1, 3] rfl hk
  · refine rn_icmp_ge_f (tgt := 75) hc4 zd_X4_follow_0.2.1.1.1 rfl ?_
    refine rn_aload_n (q := 0) 0 rfl zd_X4_follow_0.2.1.1.2 ?_
    refine rn_getR zf_X4_12 (Or.inl ⟨_, rfl⟩) k_a0 (zx_4_0 hW k_a0) zd_X4_follow_0.2.1.2.1 ?_
    refine rn_iload 4 rfl zd_X4_follow_0.2.1.2.2 ?_
    obtain ⟨r5, h6, h⟩ := zbd_e h
    refine rn_callVi (As := [.int x5]) (rest := []) zl_X4_38 zm_X6_has ⟨by decide, by decide⟩ (ci := 6) rfl rfl (by decide) (zw_4_0 hW k_a0) rfl rfl (Nat.le_of_ble_eq_true rfl) zd_X4_follow_0.2.2.1.1 (ok_X6_has hW (zw_4_0 hW k_a0) h6) ?_
    rcases zif_e h with ⟨hc7, h⟩ | ⟨hc7, h⟩
    · refine rn_if_eq_t (tgt := 75) hc7 zd_X4_follow_0.2.2.1.2 rfl ?_
      cases h
      exact rn_sub (ls' := [(0, .ref a0), (1, .ref a1), (4, .int x4)]) [0, 1, 3] rfl hk
    · refine rn_if_eq_f (tgt := 75) hc7 zd_X4_follow_0.2.2.1.2 rfl ?_
      refine rn_aload_n (q := 0) 0 rfl zd_X4_follow_0.2.2.2.1 ?_
      refine rn_getR zf_X4_12 (Or.inl ⟨_, rfl⟩) k_a0 (zx_4_0 hW k_a0) zd_X4_follow_0.2.2.2.2 ?_
      refine rn_getR zf_X4_42 (Or.inr ⟨_, rfl⟩) (zw_4_0 hW k_a0) (zx_6_1 hW (zw_4_0 hW k_a0)) zd_X4_follow_1.1.1.1.1 ?_
      refine rn_iload 4 rfl zd_X4_follow_1.1.1.1.2 ?_
      refine rn_iload 3 rfl zd_X4_follow_1.1.1.2.1 ?_
      refine rn_iload 4 rfl zd_X4_follow_1.1.1.2.2 ?_
      refine rn_ishr zd_X4_follow_1.1.2.1.1 ?_
      refine rn_iconst (v := 1) zd_X4_follow_1.1.2.1.2 rfl ?_
      refine rn_iand zd_X4_follow_1.1.2.2.1 ?_
      refine rn_iconst (v := 1) zd_X4_follow_1.1.2.2.2 rfl ?_
      rcases zif_e h with ⟨hc8, h⟩ | ⟨hc8, h⟩
      · refine rn_icmp_ne_f (tgt := 67) hc8 zd_X4_follow_1.2.1.1.1 rfl ?_
        refine rn_iload_n (q := 3) 2 rfl zd_X4_follow_1.2.1.1.2 ?_
        refine rn_aload_n (q := 0) 0 rfl zd_X4_follow_1.2.1.2.1 ?_
        refine rn_getR zf_X4_12 (Or.inl ⟨_, rfl⟩) k_a0 (zx_4_0 hW k_a0) zd_X4_follow_1.2.1.2.2 ?_
        refine rn_getR zf_X4_45 (Or.inr ⟨_, rfl⟩) (zw_4_0 hW k_a0) (zx_6_0 hW (zw_4_0 hW k_a0)) zd_X4_follow_1.2.2.1.1 ?_
        refine rn_iload 4 rfl zd_X4_follow_1.2.2.1.2 ?_
        obtain ⟨hc11, h⟩ := zck_e h
        refine rn_iald (zw_6_0 hW (zw_4_0 hW k_a0)) hc11 zd_X4_follow_1.2.2.2.1 ?_
        refine rn_min zb_X4_48 zms_min zmi zmc_min ⟨by decide, by decide⟩ (Nat.le_of_ble_eq_true rfl) zd_X4_follow_1.2.2.2.2 ?_
        refine rn_goto (tgt := 68) zd_X4_follow_2.1.1.1.1 rfl ?_
        exact rn_sub (ls' := [(0, .ref a0), (1, .ref a1), (3, .int x3), (4, .int x4), (5, .int x5)]) [0, 1, 2, 3, 4] rfl (ok_j_X4_follow_68 hW k_a0 k_a1 (zw_6_1 hW (zw_4_0 hW k_a0)) h hk)
      · refine rn_icmp_ne_t (tgt := 67) hc8 zd_X4_follow_1.2.1.1.1 rfl ?_
        refine rn_iconst (v := 0) zd_X4_follow_2.1.1.1.2 rfl ?_
        exact rn_sub (ls' := [(0, .ref a0), (1, .ref a1), (3, .int x3), (4, .int x4), (5, .int x5)]) [0, 1, 2, 3, 4] rfl (ok_j_X4_follow_68 hW k_a0 k_a1 (zw_6_1 hW (zw_4_0 hW k_a0)) h hk)
abbrev P_X4_follow_90 (G : zG) (K : zK) (R : zR) (L : zL) (a0 : Nat) (x4 : Int32) (r : Option Value) (S' : zS) (v : Int32 × zM) : Prop := Rn G mt_X4_follow 90 [(0, .ref a0), (4, .int x4), (5, .int v.1)] [] (v.2, L, R, K) r S'
abbrev Q_X4_follow_90 (G : zG) (K : zK) (R : zR) (L : zL) (a0 : Nat) (x4 : Int32) (r : Option Value) (S' : zS) : (zM) → Prop := (fun e => Rn G mt_X4_follow 138 [] [] (e, L, R, K) r S')
def nb_X4_follow_90 (R : zR) (M : zM) (L : zL) (a0 : Nat) (x4 : Int32) (x5 : Int32) : Option ((Int32 × zM) ⊕ ((zM))) :=
  if (8 : Int32) ≤ x5 then (
    some (.inr M)
  ) else (
    zbd (f_X6_has M (R a0 0) x5) fun r17 =>
    if r17 = 0 then (
      some (.inr M)
    ) else (
      zck (zin x5 10) <|
      zck (zin ((x4 * (8 : Int32)) + x5) 2048) <|
      zlt (zup M (R a0 1) (ztn ((x4 * (8 : Int32)) + x5)) (M (R (R a0 0) 0) (ztn x5))) fun M22 =>
      some (.inl ((x5 + 1), M22))
    )
  )
set_option maxRecDepth 4000 in
theorem ok_b_X4_follow_90 {G : zG} {K : zK} {R : zR} {M : zM} {L : zL} (hW : zWT R K) {a0 : Nat} {x4 : Int32} {x5 : Int32} (k_a0 : K[a0]? = some (4, 2)) {r : Option Value} {S' : zS} {x : (Int32 × zM) ⊕ ((zM))} (h : nb_X4_follow_90 R M L a0 x4 x5 = some x) (hk : Sum.elim (P_X4_follow_90 G K R L a0 x4 r S') (Q_X4_follow_90 G K R L a0 x4 r S') x) : P_X4_follow_90 G K R L a0 x4 r S' (x5, M) := by
  show Rn G mt_X4_follow 90 [(0, .ref a0), (4, .int x4), (5, .int x5)] [] (M, L, R, K) r S'
  unfold nb_X4_follow_90 at h
  refine rn_iload 2 rfl zd_X4_follow_2.2.2.1.2 ?_
  refine rn_bipush (v := 8) zd_X4_follow_2.2.2.2.1 rfl ?_
  rcases zif_e h with ⟨hc16, h⟩ | ⟨hc16, h⟩
  · refine rn_icmp_ge_t (tgt := 138) hc16 zd_X4_follow_2.2.2.2.2 rfl ?_
    cases h
    exact rn_sub (ls' := []) [] rfl hk
  · refine rn_icmp_ge_f (tgt := 138) hc16 zd_X4_follow_2.2.2.2.2 rfl ?_
    refine rn_aload_n (q := 0) 0 rfl zd_X4_follow_3.1.1.1.1 ?_
    refine rn_getR zf_X4_12 (Or.inl ⟨_, rfl⟩) k_a0 (zx_4_0 hW k_a0) zd_X4_follow_3.1.1.1.2 ?_
    refine rn_iload 2 rfl zd_X4_follow_3.1.1.2.1 ?_
    obtain ⟨r17, h18, h⟩ := zbd_e h
    refine rn_callVi (As := [.int x5]) (rest := []) zl_X4_38 zm_X6_has ⟨by decide, by decide⟩ (ci := 6) rfl rfl (by decide) (zw_4_0 hW k_a0) rfl rfl (Nat.le_of_ble_eq_true rfl) zd_X4_follow_3.1.1.2.2 (ok_X6_has hW (zw_4_0 hW k_a0) h18) ?_
    rcases zif_e h with ⟨hc19, h⟩ | ⟨hc19, h⟩
    · refine rn_if_eq_t (tgt := 138) hc19 zd_X4_follow_3.1.2.1.1 rfl ?_
      cases h
      exact rn_sub (ls' := []) [] rfl hk
    · refine rn_if_eq_f (tgt := 138) hc19 zd_X4_follow_3.1.2.1.1 rfl ?_
      refine rn_aload_n (q := 0) 0 rfl zd_X4_follow_3.1.2.1.2 ?_
      refine rn_getR zf_X4_18 (Or.inr ⟨_, rfl⟩) k_a0 (zx_4_1 hW k_a0) zd_X4_follow_3.1.2.2.1 ?_
      refine rn_iload 1 rfl zd_X4_follow_3.1.2.2.2 ?_
      refine rn_bipush (v := 8) zd_X4_follow_3.2.1.1.1 rfl ?_
      refine rn_imul zd_X4_follow_3.2.1.1.2 ?_
      refine rn_iload 2 rfl zd_X4_follow_3.2.1.2.1 ?_
      refine rn_iadd zd_X4_follow_3.2.1.2.2 ?_
      refine rn_aload_n (q := 0) 0 rfl zd_X4_follow_3.2.2.1.1 ?_
      refine rn_getR zf_X4_12 (Or.inl ⟨_, rfl⟩) k_a0 (zx_4_0 hW k_a0) zd_X4_follow_3.2.2.1.2 ?_
      refine rn_getR zf_X4_45 (Or.inr ⟨_, rfl⟩) (zw_4_0 hW k_a0) (zx_6_0 hW (zw_4_0 hW k_a0)) zd_X4_follow_3.2.2.2.1 ?_
      refine rn_iload 2 rfl zd_X4_follow_3.2.2.2.2 ?_
      obtain ⟨hc20, h⟩ := zck_e h
      refine rn_iald (zw_6_0 hW (zw_4_0 hW k_a0)) hc20 zd_X4_follow_4.1.1 ?_
      obtain ⟨hc21, h⟩ := zck_e h
      obtain ⟨M22, hM22, h⟩ := zlt_e h
      refine rn_iast hM22 (zw_4_1 hW k_a0) hc21 zd_X4_follow_4.1.2 ?_
      refine rn_iinc (v := (x5 + 1)) (ls' := [(5, .int (x5 + 1)), (0, .ref a0), (4, .int x4)]) 2 rfl rfl (by decide) rfl zd_X4_follow_4.2.1 ?_
      refine rn_goto (tgt := 90) zd_X4_follow_4.2.2.1 rfl ?_
      cases h
      exact rn_sub (ls' := [(0, .ref a0), (4, .int x4), (5, .int (x5 + 1))]) [1, 2, 0] rfl hk
def n_X4_follow (R : zR) (M : zM) (L : zL) (a0 : Nat) (a1 : Nat) (a2 : Nat) (x3 : Int32) (x4 : Int32) : Option (zM × zL) :=
  zbd2 (n_X6_copy R M L (R a0 0) a2) fun M1 L2 =>
  zbd (zloop zN (fun v => nb_X4_follow_11 R v.2 L2 a0 a1 x3 x4 v.1) ((0 : Int32), M1)) fun e12 =>
  zbd2 (n_X7_evening R e12 L2 a1 (R a0 0) (e12 a1 8)) fun M13 L14 =>
  zbd (zloop zN (fun v => nb_X4_follow_90 R v.2 L14 a0 x4 v.1) ((0 : Int32), M13)) fun e23 =>
  some (e23, L14)
set_option maxRecDepth 4000 in
theorem ok_X4_follow {G : zG} {K : zK} {R : zR} {M : zM} {L : zL} (hW : zWT R K) {a0 : Nat} {a1 : Nat} {a2 : Nat} {x3 : Int32} {x4 : Int32} (k_a0 : K[a0]? = some (4, 2)) (k_a1 : K[a1]? = some (7, 11)) (k_a2 : K[a2]? = some (6, 8)) {M' : zM} {L' : zL} (h : n_X4_follow R M L a0 a1 a2 x3 x4 = some (M', L')) : Rm G mt_X4_follow [.ref a0, .ref a1, .ref a2, .int x3, .int x4] (M, L, R, K) none (M', L', R, K) := by
  refine rm_rn rfl rfl (Nat.le_of_ble_eq_true rfl) ?_
  show Rn G mt_X4_follow 0 [(0, .ref a0), (1, .ref a1), (2, .ref a2), (3, .int x3), (4, .int x4)] [] (M, L, R, K) none (M', L', R, K)
  unfold n_X4_follow at h
  refine rn_aload_n (q := 0) 0 rfl zd_X4_follow_0.1.1.1.1 ?_
  refine rn_getR zf_X4_12 (Or.inl ⟨_, rfl⟩) k_a0 (zx_4_0 hW k_a0) zd_X4_follow_0.1.1.1.2 ?_
  refine rn_aload_n (q := 2) 2 rfl zd_X4_follow_0.1.1.2.1 ?_
  obtain ⟨M1, L2, h3, h⟩ := zbd2_e h
  refine rn_callVv (As := [.ref a2]) (rest := []) zl_X4_34 zm_X6_copy ⟨by decide, by decide⟩ (ci := 6) rfl rfl (by decide) (zw_4_0 hW k_a0) rfl rfl (Nat.le_of_ble_eq_true rfl) zd_X4_follow_0.1.1.2.2 (ok_X6_copy hW (zw_4_0 hW k_a0) k_a2 h3) ?_
  refine rn_iconst (v := 0) zd_X4_follow_0.1.2.1.1 rfl ?_
  refine rn_istore (ls' := [(5, .int (0 : Int32)), (0, .ref a0), (1, .ref a1), (2, .ref a2), (3, .int x3), (4, .int x4)]) (by decide) rfl zd_X4_follow_0.1.2.1.2 ?_
  obtain ⟨e12, he12, h⟩ := zbd_e h
  refine rn_sub (ls' := [(0, .ref a0), (1, .ref a1), (3, .int x3), (4, .int x4), (5, .int (0 : Int32))]) [1, 2, 4, 5, 0] rfl (zloop_ok (P := P_X4_follow_11 G K R L2 a0 a1 x3 x4 none (M', L', R, K)) (Q := Q_X4_follow_11 G K R L2 a0 a1 x3 x4 none (M', L', R, K)) (fun v x hx hq => ok_b_X4_follow_11 hW k_a0 k_a1 hx hq) _ _ _ he12 ?_)
  show Rn G mt_X4_follow 75 [(0, .ref a0), (1, .ref a1), (4, .int x4)] [] (e12, L2, R, K) none (M', L', R, K)
  refine rn_aload_n (q := 1) 1 rfl zd_X4_follow_2.1.2.1.2 ?_
  refine rn_aload_n (q := 0) 0 rfl zd_X4_follow_2.1.2.2.1 ?_
  refine rn_getR zf_X4_12 (Or.inl ⟨_, rfl⟩) k_a0 (zx_4_0 hW k_a0) zd_X4_follow_2.1.2.2.2 ?_
  refine rn_aload_n (q := 1) 1 rfl zd_X4_follow_2.2.1.1.1 ?_
  refine rn_getI zf_X4_54 (Or.inl rfl) k_a1 zd_X4_follow_2.2.1.1.2 ?_
  obtain ⟨M13, L14, h15, h⟩ := zbd2_e h
  refine rn_callVv (As := [.ref (R a0 0), .int (e12 a1 8)]) (rest := []) zl_X4_59 zm_X7_evening ⟨by decide, by decide⟩ (ci := 7) rfl rfl (by decide) k_a1 rfl rfl (Nat.le_of_ble_eq_true rfl) zd_X4_follow_2.2.1.2.1 (ok_X7_evening hW k_a1 (zw_4_0 hW k_a0) h15) ?_
  refine rn_iconst (v := 0) zd_X4_follow_2.2.1.2.2 rfl ?_
  refine rn_istore (ls' := [(5, .int (0 : Int32)), (0, .ref a0), (1, .ref a1), (4, .int x4)]) (by decide) rfl zd_X4_follow_2.2.2.1.1 ?_
  obtain ⟨e23, he23, h⟩ := zbd_e h
  refine rn_sub (ls' := [(0, .ref a0), (4, .int x4), (5, .int (0 : Int32))]) [1, 3, 0] rfl (zloop_ok (P := P_X4_follow_90 G K R L14 a0 x4 none (M', L', R, K)) (Q := Q_X4_follow_90 G K R L14 a0 x4 none (M', L', R, K)) (fun v x hx hq => ok_b_X4_follow_90 hW k_a0 hx hq) _ _ _ he23 ?_)
  show Rn G mt_X4_follow 138 [] [] (e23, L14, R, K) none (M', L', R, K)
  cases h
  exact rn_vret zd_X4_follow_4.2.2.2 rfl
abbrev P_X4_isRest_2 (G : zG) (K : zK) (R : zR) (M : zM) (L : zL) (a0 : Nat) (x1 : Int32) (x2 : Int32) (r : Option Value) (S' : zS) (v : Int32) : Prop := Rn G mt_X4_isRest 2 [(0, .ref a0), (1, .int x1), (2, .int x2), (3, .int v)] [] (M, L, R, K) r S'
abbrev Q_X4_isRest_2 (G : zG) (K : zK) (R : zR) (M : zM) (L : zL) (a0 : Nat) (x1 : Int32) (x2 : Int32) (r : Option Value) (S' : zS) : (Unit) ⊕ (Unit) → Prop := (Sum.elim (fun e => Rn G mt_X4_isRest 46 [] [] (M, L, R, K) r S') (fun e => Rn G mt_X4_isRest 54 [] [] (M, L, R, K) r S'))
def b_X4_isRest_2 (R : zR) (M : zM) (a0 : Nat) (x1 : Int32) (x2 : Int32) (x3 : Int32) : Option ((Int32) ⊕ ((Unit) ⊕ (Unit))) :=
  if x2 ≤ x3 then (
    some (.inr (.inr ()))
  ) else (
    if (8 : Int32) ≤ x3 then (
      some (.inr (.inr ()))
    ) else (
      zck (zin (((x1 ^^^ ((1 : Int32) <<< (x3 &&& 31))) * (8 : Int32)) + x3) 2048) <|
      zck (zin ((x1 * (8 : Int32)) + x3) 2048) <|
      if (M (R a0 1) (ztn (((x1 ^^^ ((1 : Int32) <<< (x3 &&& 31))) * (8 : Int32)) + x3))) ≤ (M (R a0 1) (ztn ((x1 * (8 : Int32)) + x3))) then (
        some (.inl (x3 + 1))
      ) else (
        some (.inr (.inl ()))
      )
    )
  )
set_option maxRecDepth 4000 in
theorem ok_b_X4_isRest_2 {G : zG} {K : zK} {R : zR} {M : zM} {L : zL} (hW : zWT R K) {a0 : Nat} {x1 : Int32} {x2 : Int32} {x3 : Int32} (k_a0 : K[a0]? = some (4, 2)) {r : Option Value} {S' : zS} {x : (Int32) ⊕ ((Unit) ⊕ (Unit))} (h : b_X4_isRest_2 R M a0 x1 x2 x3 = some x) (hk : Sum.elim (P_X4_isRest_2 G K R M L a0 x1 x2 r S') (Q_X4_isRest_2 G K R M L a0 x1 x2 r S') x) : P_X4_isRest_2 G K R M L a0 x1 x2 r S' x3 := by
  show Rn G mt_X4_isRest 2 [(0, .ref a0), (1, .int x1), (2, .int x2), (3, .int x3)] [] (M, L, R, K) r S'
  unfold b_X4_isRest_2 at h
  refine rn_iload_n (q := 3) 3 rfl zd_X4_isRest_0.1.1.2.1 ?_
  refine rn_iload_n (q := 2) 2 rfl zd_X4_isRest_0.1.1.2.2 ?_
  rcases zif_e h with ⟨hc1, h⟩ | ⟨hc1, h⟩
  · refine rn_icmp_ge_t (tgt := 54) hc1 zd_X4_isRest_0.1.2.1.1 rfl ?_
    cases h
    exact rn_sub (ls' := []) [] rfl hk
  · refine rn_icmp_ge_f (tgt := 54) hc1 zd_X4_isRest_0.1.2.1.1 rfl ?_
    refine rn_iload_n (q := 3) 3 rfl zd_X4_isRest_0.1.2.1.2 ?_
    refine rn_bipush (v := 8) zd_X4_isRest_0.1.2.2.1 rfl ?_
    rcases zif_e h with ⟨hc2, h⟩ | ⟨hc2, h⟩
    · refine rn_icmp_ge_t (tgt := 54) hc2 zd_X4_isRest_0.1.2.2.2 rfl ?_
      cases h
      exact rn_sub (ls' := []) [] rfl hk
    · refine rn_icmp_ge_f (tgt := 54) hc2 zd_X4_isRest_0.1.2.2.2 rfl ?_
      refine rn_iload_n (q := 1) 1 rfl zd_X4_isRest_0.2.1.1.1 ?_
      refine rn_iconst (v := 1) zd_X4_isRest_0.2.1.1.2 rfl ?_
      refine rn_iload_n (q := 3) 3 rfl zd_X4_isRest_0.2.1.2.1 ?_
      refine rn_ishl zd_X4_isRest_0.2.1.2.2 ?_
      refine rn_ixor zd_X4_isRest_0.2.2.1.1 ?_
      refine rn_istore (ls' := [(4, .int (x1 ^^^ ((1 : Int32) <<< (x3 &&& 31)))), (0, .ref a0), (1, .int x1), (2, .int x2), (3, .int x3)]) (by decide) rfl zd_X4_isRest_0.2.2.1.2 ?_
      refine rn_aload_n (q := 0) 1 rfl zd_X4_isRest_0.2.2.2.1 ?_
      refine rn_getR zf_X4_18 (Or.inr ⟨_, rfl⟩) k_a0 (zx_4_1 hW k_a0) zd_X4_isRest_0.2.2.2.2 ?_
      refine rn_iload 0 rfl zd_X4_isRest_1.1.1.1.1 ?_
      refine rn_bipush (v := 8) zd_X4_isRest_1.1.1.1.2 rfl ?_
      refine rn_imul zd_X4_isRest_1.1.1.2.1 ?_
      refine rn_iload_n (q := 3) 4 rfl zd_X4_isRest_1.1.1.2.2 ?_
      refine rn_iadd zd_X4_isRest_1.1.2.1.1 ?_
      obtain ⟨hc3, h⟩ := zck_e h
      refine rn_iald (zw_4_1 hW k_a0) hc3 zd_X4_isRest_1.1.2.1.2 ?_
      refine rn_aload_n (q := 0) 1 rfl zd_X4_isRest_1.1.2.2.1 ?_
      refine rn_getR zf_X4_18 (Or.inr ⟨_, rfl⟩) k_a0 (zx_4_1 hW k_a0) zd_X4_isRest_1.1.2.2.2 ?_
      refine rn_iload_n (q := 1) 2 rfl zd_X4_isRest_1.2.1.1.1 ?_
      refine rn_bipush (v := 8) zd_X4_isRest_1.2.1.1.2 rfl ?_
      refine rn_imul zd_X4_isRest_1.2.1.2.1 ?_
      refine rn_iload_n (q := 3) 4 rfl zd_X4_isRest_1.2.1.2.2 ?_
      refine rn_iadd zd_X4_isRest_1.2.2.1.1 ?_
      obtain ⟨hc4, h⟩ := zck_e h
      refine rn_iald (zw_4_1 hW k_a0) hc4 zd_X4_isRest_1.2.2.1.2 ?_
      rcases zif_e h with ⟨hc5, h⟩ | ⟨hc5, h⟩
      · refine rn_icmp_le_t (tgt := 48) hc5 zd_X4_isRest_1.2.2.2.1 rfl ?_
        refine rn_iinc (v := (x3 + 1)) (ls' := [(3, .int (x3 + 1)), (4, .int (x1 ^^^ ((1 : Int32) <<< (x3 &&& 31)))), (0, .ref a0), (1, .int x1), (2, .int x2)]) 4 rfl rfl (by decide) rfl zd_X4_isRest_2.1.2 ?_
        refine rn_goto (tgt := 2) zd_X4_isRest_2.2.1 rfl ?_
        cases h
        exact rn_sub (ls' := [(0, .ref a0), (1, .int x1), (2, .int x2), (3, .int (x3 + 1))]) [2, 3, 4, 0] rfl hk
      · refine rn_icmp_le_f (tgt := 48) hc5 zd_X4_isRest_1.2.2.2.1 rfl ?_
        cases h
        exact rn_sub (ls' := []) [] rfl hk
def f_X4_isRest (R : zR) (M : zM) (a0 : Nat) (x1 : Int32) (x2 : Int32) : Option (Int32) :=
  zbd (zloop zN (fun v => b_X4_isRest_2 R M a0 x1 x2 v) (0 : Int32)) fun e6 =>
  Sum.elim (fun e7 =>
    some (0 : Int32)
  ) (fun e8 =>
    some (1 : Int32)
  ) e6
set_option maxRecDepth 4000 in
theorem ok_X4_isRest {G : zG} {K : zK} {R : zR} {M : zM} {L : zL} (hW : zWT R K) {a0 : Nat} {x1 : Int32} {x2 : Int32} (k_a0 : K[a0]? = some (4, 2)) {r' : Int32} (h : f_X4_isRest R M a0 x1 x2 = some r') : Rm G mt_X4_isRest [.ref a0, .int x1, .int x2] (M, L, R, K) (some (.int r')) (M, L, R, K) := by
  refine rm_rn rfl rfl (Nat.le_of_ble_eq_true rfl) ?_
  show Rn G mt_X4_isRest 0 [(0, .ref a0), (1, .int x1), (2, .int x2)] [] (M, L, R, K) (some (.int r')) (M, L, R, K)
  unfold f_X4_isRest at h
  refine rn_iconst (v := 0) zd_X4_isRest_0.1.1.1.1 rfl ?_
  refine rn_istore_n (q := 3) (ls' := [(3, .int (0 : Int32)), (0, .ref a0), (1, .int x1), (2, .int x2)]) (by decide) rfl zd_X4_isRest_0.1.1.1.2 ?_
  obtain ⟨e6, he6, h⟩ := zbd_e h
  refine rn_sub (ls' := [(0, .ref a0), (1, .int x1), (2, .int x2), (3, .int (0 : Int32))]) [1, 2, 3, 0] rfl (zloop_ok (P := P_X4_isRest_2 G K R M L a0 x1 x2 (some (.int r')) (M, L, R, K)) (Q := Q_X4_isRest_2 G K R M L a0 x1 x2 (some (.int r')) (M, L, R, K)) (fun v x hx hq => ok_b_X4_isRest_2 hW k_a0 hx hq) _ _ _ he6 ?_)
  rcases e6 with e7 | e8
  · rw [Sum.elim_inl] at h
    show Rn G mt_X4_isRest 46 [] [] (M, L, R, K) (some (.int r')) (M, L, R, K)
    refine rn_iconst (v := 0) zd_X4_isRest_1.2.2.2.2 rfl ?_
    cases h
    exact rn_zret zd_X4_isRest_2.1.1 rfl rfl
  · rw [Sum.elim_inr] at h
    show Rn G mt_X4_isRest 54 [] [] (M, L, R, K) (some (.int r')) (M, L, R, K)
    refine rn_iconst (v := 1) zd_X4_isRest_2.2.2.1 rfl ?_
    cases h
    exact rn_zret zd_X4_isRest_2.2.2.2 rfl rfl
abbrev P_X4_restAt_23 (G : zG) (K : zK) (R : zR) (a0 : Nat) (a1 : Nat) (a2 : Nat) (x3 : Int32) (x4 : Int32) (x5 : Int32) (r : Option Value) (S' : zS) (v : Int32 × zM × zL) : Prop := Rn G mt_X4_restAt 23 [(0, .ref a0), (1, .ref a1), (2, .ref a2), (3, .int x3), (4, .int x4), (5, .int x5), (6, .int v.1)] [] (v.2.1, v.2.2, R, K) r S'
abbrev Q_X4_restAt_23 (G : zG) (K : zK) (R : zR) (a0 : Nat) (a1 : Nat) (a2 : Nat) (x3 : Int32) (x4 : Int32) (x5 : Int32) (r : Option Value) (S' : zS) : (zM × zL) → Prop := (fun e => Rn G mt_X4_restAt 45 [(0, .ref a0), (2, .ref a2), (4, .int x4), (5, .int x5)] [] (e.1, e.2, R, K) r S')
def nb_X4_restAt_23 (R : zR) (M : zM) (L : zL) (a0 : Nat) (a1 : Nat) (a2 : Nat) (x3 : Int32) (x4 : Int32) (x5 : Int32) (x6 : Int32) : Option ((Int32 × zM × zL) ⊕ ((zM × zL))) :=
  if x5 ≤ x6 then (
    some (.inr (M, L))
  ) else (
    zbd2 (n_X4_follow R M L a0 a1 a2 x3 x6) fun M3 L4 =>
    some (.inl ((x6 + 1), M3, L4))
  )
set_option maxRecDepth 4000 in
theorem ok_b_X4_restAt_23 {G : zG} {K : zK} {R : zR} {M : zM} {L : zL} (hW : zWT R K) {a0 : Nat} {a1 : Nat} {a2 : Nat} {x3 : Int32} {x4 : Int32} {x5 : Int32} {x6 : Int32} (k_a0 : K[a0]? = some (4, 2)) (k_a1 : K[a1]? = some (7, 11)) (k_a2 : K[a2]? = some (6, 8)) {r : Option Value} {S' : zS} {x : (Int32 × zM × zL) ⊕ ((zM × zL))} (h : nb_X4_restAt_23 R M L a0 a1 a2 x3 x4 x5 x6 = some x) (hk : Sum.elim (P_X4_restAt_23 G K R a0 a1 a2 x3 x4 x5 r S') (Q_X4_restAt_23 G K R a0 a1 a2 x3 x4 x5 r S') x) : P_X4_restAt_23 G K R a0 a1 a2 x3 x4 x5 r S' (x6, M, L) := by
  show Rn G mt_X4_restAt 23 [(0, .ref a0), (1, .ref a1), (2, .ref a2), (3, .int x3), (4, .int x4), (5, .int x5), (6, .int x6)] [] (M, L, R, K) r S'
  unfold nb_X4_restAt_23 at h
  refine rn_iload 6 rfl zd_X4_restAt_0.2.2.1.2 ?_
  refine rn_iload 5 rfl zd_X4_restAt_0.2.2.2.1 ?_
  rcases zif_e h with ⟨hc2, h⟩ | ⟨hc2, h⟩
  · refine rn_icmp_ge_t (tgt := 45) hc2 zd_X4_restAt_0.2.2.2.2 rfl ?_
    cases h
    exact rn_sub (ls' := [(0, .ref a0), (2, .ref a2), (4, .int x4), (5, .int x5)]) [0, 2, 4, 5] rfl hk
  · refine rn_icmp_ge_f (tgt := 45) hc2 zd_X4_restAt_0.2.2.2.2 rfl ?_
    refine rn_aload_n (q := 0) 0 rfl zd_X4_restAt_1.1.1.1.1 ?_
    refine rn_aload_n (q := 1) 1 rfl zd_X4_restAt_1.1.1.1.2 ?_
    refine rn_aload_n (q := 2) 2 rfl zd_X4_restAt_1.1.1.2.1 ?_
    refine rn_iload_n (q := 3) 3 rfl zd_X4_restAt_1.1.1.2.2 ?_
    refine rn_iload 6 rfl zd_X4_restAt_1.1.2.1.1 ?_
    obtain ⟨M3, L4, h5, h⟩ := zbd2_e h
    refine rn_callVv (As := [.ref a1, .ref a2, .int x3, .int x6]) (rest := []) zl_X4_26 zm_X4_follow ⟨by decide, by decide⟩ (ci := 4) rfl rfl (by decide) k_a0 rfl rfl (Nat.le_of_ble_eq_true rfl) zd_X4_restAt_1.1.2.1.2 (ok_X4_follow hW k_a0 k_a1 k_a2 h5) ?_
    refine rn_iinc (v := (x6 + 1)) (ls' := [(6, .int (x6 + 1)), (0, .ref a0), (1, .ref a1), (2, .ref a2), (3, .int x3), (4, .int x4), (5, .int x5)]) 6 rfl rfl (by decide) rfl zd_X4_restAt_1.1.2.2.1 ?_
    refine rn_goto (tgt := 23) zd_X4_restAt_1.1.2.2.2 rfl ?_
    cases h
    exact rn_sub (ls' := [(0, .ref a0), (1, .ref a1), (2, .ref a2), (3, .int x3), (4, .int x4), (5, .int x5), (6, .int (x6 + 1))]) [1, 2, 3, 4, 5, 6, 0] rfl hk
abbrev P_X4_restAt_51 (G : zG) (K : zK) (R : zR) (M : zM) (L : zL) (a0 : Nat) (a2 : Nat) (x4 : Int32) (x5 : Int32) (r : Option Value) (S' : zS) (v : Int32 × Int32) : Prop := Rn G mt_X4_restAt 51 [(0, .ref a0), (2, .ref a2), (4, .int x4), (5, .int x5), (6, .int v.1), (7, .int v.2)] [] (M, L, R, K) r S'
abbrev Q_X4_restAt_51 (G : zG) (K : zK) (R : zR) (M : zM) (L : zL) (a0 : Nat) (a2 : Nat) (x4 : Int32) (x5 : Int32) (r : Option Value) (S' : zS) : (Int32) ⊕ (Int32) → Prop := (Sum.elim (fun e => Rn G mt_X4_restAt 81 [(7, .int e)] [] (M, L, R, K) r S') (fun e => Rn G mt_X4_restAt 93 [(4, .int x4), (6, .int e)] [] (M, L, R, K) r S'))
def nb_X4_restAt_51 (R : zR) (M : zM) (L : zL) (a0 : Nat) (a2 : Nat) (x4 : Int32) (x5 : Int32) (x6 : Int32) (x7 : Int32) : Option ((Int32 × Int32) ⊕ ((Int32) ⊕ (Int32))) :=
  if x5 ≤ x7 then (
    some (.inr (.inr x6))
  ) else (
    zbd (f_X4_isRest R M a0 x7 (M a2 4)) fun r8 =>
    if r8 = 0 then (
      some (.inl (x6, (x7 + 1)))
    ) else (
      if x6 = x4 then (
        some (.inr (.inl x7))
      ) else (
        some (.inl ((x6 + 1), (x7 + 1)))
      )
    )
  )
set_option maxRecDepth 4000 in
theorem ok_b_X4_restAt_51 {G : zG} {K : zK} {R : zR} {M : zM} {L : zL} (hW : zWT R K) {a0 : Nat} {a2 : Nat} {x4 : Int32} {x5 : Int32} {x6 : Int32} {x7 : Int32} (k_a0 : K[a0]? = some (4, 2)) (k_a2 : K[a2]? = some (6, 8)) {r : Option Value} {S' : zS} {x : (Int32 × Int32) ⊕ ((Int32) ⊕ (Int32))} (h : nb_X4_restAt_51 R M L a0 a2 x4 x5 x6 x7 = some x) (hk : Sum.elim (P_X4_restAt_51 G K R M L a0 a2 x4 x5 r S') (Q_X4_restAt_51 G K R M L a0 a2 x4 x5 r S') x) : P_X4_restAt_51 G K R M L a0 a2 x4 x5 r S' (x6, x7) := by
  show Rn G mt_X4_restAt 51 [(0, .ref a0), (2, .ref a2), (4, .int x4), (5, .int x5), (6, .int x6), (7, .int x7)] [] (M, L, R, K) r S'
  unfold nb_X4_restAt_51 at h
  refine rn_iload 5 rfl zd_X4_restAt_1.2.2.1.1 ?_
  refine rn_iload 3 rfl zd_X4_restAt_1.2.2.1.2 ?_
  rcases zif_e h with ⟨hc7, h⟩ | ⟨hc7, h⟩
  · refine rn_icmp_ge_t (tgt := 93) hc7 zd_X4_restAt_1.2.2.2.1 rfl ?_
    cases h
    exact rn_sub (ls' := [(4, .int x4), (6, .int x6)]) [2, 4] rfl hk
  · refine rn_icmp_ge_f (tgt := 93) hc7 zd_X4_restAt_1.2.2.2.1 rfl ?_
    refine rn_aload_n (q := 0) 0 rfl zd_X4_restAt_1.2.2.2.2 ?_
    refine rn_iload 5 rfl zd_X4_restAt_2.1.1.1.1 ?_
    refine rn_aload_n (q := 2) 1 rfl zd_X4_restAt_2.1.1.1.2 ?_
    refine rn_getI zf_X4_22 (Or.inl rfl) k_a2 zd_X4_restAt_2.1.1.2.1 ?_
    obtain ⟨r8, h9, h⟩ := zbd_e h
    refine rn_callVi (As := [.int x7, .int (M a2 4)]) (rest := []) zl_X4_30 zm_X4_isRest ⟨by decide, by decide⟩ (ci := 4) rfl rfl (by decide) k_a0 rfl rfl (Nat.le_of_ble_eq_true rfl) zd_X4_restAt_2.1.1.2.2 (ok_X4_isRest hW k_a0 h9) ?_
    rcases zif_e h with ⟨hc10, h⟩ | ⟨hc10, h⟩
    · refine rn_if_ne_f (tgt := 74) hc10 zd_X4_restAt_2.1.2.1.1 rfl ?_
      refine rn_goto (tgt := 87) zd_X4_restAt_2.1.2.1.2 rfl ?_
      refine rn_iinc (v := (x7 + 1)) (ls' := [(7, .int (x7 + 1)), (0, .ref a0), (2, .ref a2), (4, .int x4), (5, .int x5), (6, .int x6)]) 5 rfl rfl (by decide) rfl zd_X4_restAt_2.2.2.1.1 ?_
      refine rn_goto (tgt := 51) zd_X4_restAt_2.2.2.1.2 rfl ?_
      cases h
      exact rn_sub (ls' := [(0, .ref a0), (2, .ref a2), (4, .int x4), (5, .int x5), (6, .int x6), (7, .int (x7 + 1))]) [1, 2, 3, 4, 5, 0] rfl hk
    · refine rn_if_ne_t (tgt := 74) hc10 zd_X4_restAt_2.1.2.1.1 rfl ?_
      refine rn_iload 4 rfl zd_X4_restAt_2.1.2.2.1 ?_
      refine rn_iload 2 rfl zd_X4_restAt_2.1.2.2.2 ?_
      rcases zif_e h with ⟨hc11, h⟩ | ⟨hc11, h⟩
      · refine rn_icmp_ne_f (tgt := 84) hc11 zd_X4_restAt_2.2.1.1.1 rfl ?_
        cases h
        exact rn_sub (ls' := [(7, .int x7)]) [5] rfl hk
      · refine rn_icmp_ne_t (tgt := 84) hc11 zd_X4_restAt_2.2.1.1.1 rfl ?_
        refine rn_iinc (v := (x6 + 1)) (ls' := [(6, .int (x6 + 1)), (0, .ref a0), (2, .ref a2), (4, .int x4), (5, .int x5), (7, .int x7)]) 4 rfl rfl (by decide) rfl zd_X4_restAt_2.2.1.2.2 ?_
        refine rn_iinc (v := (x7 + 1)) (ls' := [(7, .int (x7 + 1)), (6, .int (x6 + 1)), (0, .ref a0), (2, .ref a2), (4, .int x4), (5, .int x5)]) 5 rfl rfl (by decide) rfl zd_X4_restAt_2.2.2.1.1 ?_
        refine rn_goto (tgt := 51) zd_X4_restAt_2.2.2.1.2 rfl ?_
        cases h
        exact rn_sub (ls' := [(0, .ref a0), (2, .ref a2), (4, .int x4), (5, .int x5), (6, .int (x6 + 1)), (7, .int (x7 + 1))]) [2, 3, 4, 5, 1, 0] rfl hk
def n_X4_restAt (R : zR) (M : zM) (L : zL) (a0 : Nat) (a1 : Nat) (a2 : Nat) (x3 : Int32) (x4 : Int32) : Option (Int32 × zM × zL) :=
  if (M a2 4) ≤ (8 : Int32) then (
    zbd (zloop zN (fun v => nb_X4_restAt_23 R v.2.1 v.2.2 a0 a1 a2 x3 x4 ((1 : Int32) <<< ((M a2 4) &&& 31)) v.1) ((0 : Int32), M, L)) fun e6 =>
    zbd (zloop zN (fun v => nb_X4_restAt_51 R e6.1 e6.2 a0 a2 x4 ((1 : Int32) <<< ((M a2 4) &&& 31)) v.1 v.2) ((0 : Int32), (0 : Int32))) fun e12 =>
    Sum.elim (fun e13 =>
      some (e13, e6.1, e6.2)
    ) (fun e14 =>
      if x4 = (-1 : Int32) then (
        some (e14, e6.1, e6.2)
      ) else (
        some ((-1 : Int32), e6.1, e6.2)
      )
    ) e12
  ) else (
    some ((-2 : Int32), M, L)
  )
set_option maxRecDepth 4000 in
theorem ok_X4_restAt {G : zG} {K : zK} {R : zR} {M : zM} {L : zL} (hW : zWT R K) {a0 : Nat} {a1 : Nat} {a2 : Nat} {x3 : Int32} {x4 : Int32} (k_a0 : K[a0]? = some (4, 2)) (k_a1 : K[a1]? = some (7, 11)) (k_a2 : K[a2]? = some (6, 8)) {r' : Int32} {M' : zM} {L' : zL} (h : n_X4_restAt R M L a0 a1 a2 x3 x4 = some (r', M', L')) : Rm G mt_X4_restAt [.ref a0, .ref a1, .ref a2, .int x3, .int x4] (M, L, R, K) (some (.int r')) (M', L', R, K) := by
  refine rm_rn rfl rfl (Nat.le_of_ble_eq_true rfl) ?_
  show Rn G mt_X4_restAt 0 [(0, .ref a0), (1, .ref a1), (2, .ref a2), (3, .int x3), (4, .int x4)] [] (M, L, R, K) (some (.int r')) (M', L', R, K)
  unfold n_X4_restAt at h
  refine rn_aload_n (q := 2) 2 rfl zd_X4_restAt_0.1.1.1.1 ?_
  refine rn_getI zf_X4_22 (Or.inl rfl) k_a2 zd_X4_restAt_0.1.1.1.2 ?_
  refine rn_bipush (v := 8) zd_X4_restAt_0.1.1.2.1 rfl ?_
  rcases zif_e h with ⟨hc1, h⟩ | ⟨hc1, h⟩
  · refine rn_icmp_le_t (tgt := 12) hc1 zd_X4_restAt_0.1.1.2.2 rfl ?_
    refine rn_iconst (v := 1) zd_X4_restAt_0.1.2.2.1 rfl ?_
    refine rn_aload_n (q := 2) 2 rfl zd_X4_restAt_0.1.2.2.2 ?_
    refine rn_getI zf_X4_22 (Or.inl rfl) k_a2 zd_X4_restAt_0.2.1.1.1 ?_
    refine rn_ishl zd_X4_restAt_0.2.1.1.2 ?_
    refine rn_istore (ls' := [(5, .int ((1 : Int32) <<< ((M a2 4) &&& 31))), (0, .ref a0), (1, .ref a1), (2, .ref a2), (3, .int x3), (4, .int x4)]) (by decide) rfl zd_X4_restAt_0.2.1.2.1 ?_
    refine rn_iconst (v := 0) zd_X4_restAt_0.2.1.2.2 rfl ?_
    refine rn_istore (ls' := [(6, .int (0 : Int32)), (5, .int ((1 : Int32) <<< ((M a2 4) &&& 31))), (0, .ref a0), (1, .ref a1), (2, .ref a2), (3, .int x3), (4, .int x4)]) (by decide) rfl zd_X4_restAt_0.2.2.1.1 ?_
    obtain ⟨e6, he6, h⟩ := zbd_e h
    refine rn_sub (ls' := [(0, .ref a0), (1, .ref a1), (2, .ref a2), (3, .int x3), (4, .int x4), (5, .int ((1 : Int32) <<< ((M a2 4) &&& 31))), (6, .int (0 : Int32))]) [2, 3, 4, 5, 6, 1, 0] rfl (zloop_ok (P := P_X4_restAt_23 G K R a0 a1 a2 x3 x4 ((1 : Int32) <<< ((M a2 4) &&& 31)) (some (.int r')) (M', L', R, K)) (Q := Q_X4_restAt_23 G K R a0 a1 a2 x3 x4 ((1 : Int32) <<< ((M a2 4) &&& 31)) (some (.int r')) (M', L', R, K)) (fun v x hx hq => ok_b_X4_restAt_23 hW k_a0 k_a1 k_a2 hx hq) _ _ _ he6 ?_)
    show Rn G mt_X4_restAt 45 [(0, .ref a0), (2, .ref a2), (4, .int x4), (5, .int ((1 : Int32) <<< ((M a2 4) &&& 31)))] [] (e6.1, e6.2, R, K) (some (.int r')) (M', L', R, K)
    refine rn_iconst (v := 0) zd_X4_restAt_1.2.1.1.1 rfl ?_
    refine rn_istore (ls' := [(6, .int (0 : Int32)), (0, .ref a0), (2, .ref a2), (4, .int x4), (5, .int ((1 : Int32) <<< ((M a2 4) &&& 31)))]) (by decide) rfl zd_X4_restAt_1.2.1.1.2 ?_
    refine rn_iconst (v := 0) zd_X4_restAt_1.2.1.2.1 rfl ?_
    refine rn_istore (ls' := [(7, .int (0 : Int32)), (6, .int (0 : Int32)), (0, .ref a0), (2, .ref a2), (4, .int x4), (5, .int ((1 : Int32) <<< ((M a2 4) &&& 31)))]) (by decide) rfl zd_X4_restAt_1.2.1.2.2 ?_
    obtain ⟨e12, he12, h⟩ := zbd_e h
    refine rn_sub (ls' := [(0, .ref a0), (2, .ref a2), (4, .int x4), (5, .int ((1 : Int32) <<< ((M a2 4) &&& 31))), (6, .int (0 : Int32)), (7, .int (0 : Int32))]) [2, 3, 4, 5, 1, 0] rfl (zloop_ok (P := P_X4_restAt_51 G K R e6.1 e6.2 a0 a2 x4 ((1 : Int32) <<< ((M a2 4) &&& 31)) (some (.int r')) (M', L', R, K)) (Q := Q_X4_restAt_51 G K R e6.1 e6.2 a0 a2 x4 ((1 : Int32) <<< ((M a2 4) &&& 31)) (some (.int r')) (M', L', R, K)) (fun v x hx hq => ok_b_X4_restAt_51 hW k_a0 k_a2 hx hq) _ _ _ he12 ?_)
    rcases e12 with e13 | e14
    · rw [Sum.elim_inl] at h
      show Rn G mt_X4_restAt 81 [(7, .int e13)] [] (e6.1, e6.2, R, K) (some (.int r')) (M', L', R, K)
      refine rn_iload 0 rfl zd_X4_restAt_2.2.1.1.2 ?_
      cases h
      exact rn_iret zd_X4_restAt_2.2.1.2.1 rfl
    · rw [Sum.elim_inr] at h
      show Rn G mt_X4_restAt 93 [(4, .int x4), (6, .int e14)] [] (e6.1, e6.2, R, K) (some (.int r')) (M', L', R, K)
      refine rn_iload 0 rfl zd_X4_restAt_2.2.2.2.1 ?_
      refine rn_iconst (v := -1) zd_X4_restAt_2.2.2.2.2 rfl ?_
      rcases zif_e h with ⟨hc15, h⟩ | ⟨hc15, h⟩
      · refine rn_icmp_ne_f (tgt := 104) hc15 zd_X4_restAt_3.1.1 rfl ?_
        refine rn_iload 1 rfl zd_X4_restAt_3.1.2 ?_
        refine rn_goto (tgt := 105) zd_X4_restAt_3.2.1 rfl ?_
        cases h
        exact rn_iret zd_X4_restAt_3.2.2.2 rfl
      · refine rn_icmp_ne_t (tgt := 104) hc15 zd_X4_restAt_3.1.1 rfl ?_
        refine rn_iconst (v := -1) zd_X4_restAt_3.2.2.1 rfl ?_
        cases h
        exact rn_iret zd_X4_restAt_3.2.2.2 rfl
  · refine rn_icmp_le_f (tgt := 12) hc1 zd_X4_restAt_0.1.1.2.2 rfl ?_
    refine rn_bipush (v := -2) zd_X4_restAt_0.1.2.1.1 rfl ?_
    cases h
    exact rn_iret zd_X4_restAt_0.1.2.1.2 rfl
def f_X5_faultPlace (M : zM) (a0 : Nat) : Option (Int32) :=
  some (M a0 7)
set_option maxRecDepth 4000 in
theorem ok_X5_faultPlace {G : zG} {K : zK} {R : zR} {M : zM} {L : zL} (hW : zWT R K) {a0 : Nat} (k_a0 : K[a0]? = some (5, 10)) {r' : Int32} (h : f_X5_faultPlace M a0 = some r') : Rm G mt_X5_faultPlace [.ref a0] (M, L, R, K) (some (.int r')) (M, L, R, K) := by
  refine rm_rn rfl rfl (Nat.le_of_ble_eq_true rfl) ?_
  show Rn G mt_X5_faultPlace 0 [(0, .ref a0)] [] (M, L, R, K) (some (.int r')) (M, L, R, K)
  unfold f_X5_faultPlace at h
  refine rn_aload_n (q := 0) 0 rfl zd_X5_faultPlace_0.1 ?_
  refine rn_getI zf_X5_26 (Or.inl rfl) k_a0 zd_X5_faultPlace_0.2.1 ?_
  cases h
  exact rn_iret zd_X5_faultPlace_0.2.2 rfl
def f_X5_failAt (R : zR) (M : zM) (a0 : Nat) (x1 : Int32) (x2 : Int32) : Option (zM) :=
  if (M a0 6) = 0 then (
    zlt (zup M a0 6 x2) fun M2 =>
    zbd (f_X9_placeOf R M2 (R a0 0) x1) fun r3 =>
    zlt (zup M2 a0 7 r3) fun M5 =>
    some M5
  ) else (
    some M
  )
set_option maxRecDepth 4000 in
theorem ok_X5_failAt {G : zG} {K : zK} {R : zR} {M : zM} {L : zL} (hW : zWT R K) {a0 : Nat} {x1 : Int32} {x2 : Int32} (k_a0 : K[a0]? = some (5, 10)) {M' : zM} (h : f_X5_failAt R M a0 x1 x2 = some M') : Rm G mt_X5_failAt [.ref a0, .int x1, .int x2] (M, L, R, K) none (M', L, R, K) := by
  refine rm_rn rfl rfl (Nat.le_of_ble_eq_true rfl) ?_
  show Rn G mt_X5_failAt 0 [(0, .ref a0), (1, .int x1), (2, .int x2)] [] (M, L, R, K) none (M', L, R, K)
  unfold f_X5_failAt at h
  refine rn_aload_n (q := 0) 0 rfl zd_X5_failAt_0.1.1.1 ?_
  refine rn_getI zf_X5_42 (Or.inl rfl) k_a0 zd_X5_failAt_0.1.1.2.1 ?_
  rcases zif_e h with ⟨hc1, h⟩ | ⟨hc1, h⟩
  · refine rn_if_eq_t (tgt := 8) hc1 zd_X5_failAt_0.1.1.2.2 rfl ?_
    refine rn_aload_n (q := 0) 0 rfl zd_X5_failAt_0.1.2.1.2 ?_
    refine rn_iload_n (q := 2) 2 rfl zd_X5_failAt_0.1.2.2.1 ?_
    obtain ⟨M2, hM2, h⟩ := zlt_e h
    refine rn_putI hM2 zf_X5_42 k_a0 zd_X5_failAt_0.1.2.2.2 ?_
    refine rn_aload_n (q := 0) 0 rfl zd_X5_failAt_0.2.1.1 ?_
    refine rn_aload_n (q := 0) 0 rfl zd_X5_failAt_0.2.1.2.1 ?_
    refine rn_getR zf_X5_12 (Or.inl ⟨_, rfl⟩) k_a0 (zx_5_0 hW k_a0) zd_X5_failAt_0.2.1.2.2 ?_
    refine rn_iload_n (q := 1) 1 rfl zd_X5_failAt_0.2.2.1.1 ?_
    obtain ⟨r3, h4, h⟩ := zbd_e h
    refine rn_callVi (As := [.int x1]) (rest := [.ref a0]) zl_X5_161 zm_X9_placeOf ⟨by decide, by decide⟩ (ci := 9) rfl rfl (by decide) (zw_5_0 hW k_a0) rfl rfl (Nat.le_of_ble_eq_true rfl) zd_X5_failAt_0.2.2.1.2 (ok_X9_placeOf hW (zw_5_0 hW k_a0) h4) ?_
    obtain ⟨M5, hM5, h⟩ := zlt_e h
    refine rn_putI hM5 zf_X5_26 k_a0 zd_X5_failAt_0.2.2.2.1 ?_
    cases h
    exact rn_vret zd_X5_failAt_0.2.2.2.2 rfl
  · refine rn_if_eq_f (tgt := 8) hc1 zd_X5_failAt_0.1.1.2.2 rfl ?_
    cases h
    exact rn_vret zd_X5_failAt_0.1.2.1.1 rfl
def j_X5_take_66 (R : zR) (M : zM) (a0 : Nat) (b0 : Nat) (s1 : Int32) : Option (Int32 × zM) :=
  zlt (zup M b0 6 s1) fun M7 =>
  zbd (f_X9_placeOf R M7 (R a0 0) (M7 a0 3)) fun r8 =>
  zlt (zup M7 a0 7 r8) fun M10 =>
  some ((0 : Int32), M10)
set_option maxRecDepth 4000 in
theorem ok_j_X5_take_66 {G : zG} {K : zK} {R : zR} {M : zM} {L : zL} (hW : zWT R K) {a0 : Nat} {b0 : Nat} {s1 : Int32} (k_a0 : K[a0]? = some (5, 10)) (k_b0 : K[b0]? = some (5, 10)) {r' : Int32} {M' : zM} (h : j_X5_take_66 R M a0 b0 s1 = some (r', M')) : Rn G mt_X5_take 66 [(0, .ref a0)] [.int s1, .ref b0] (M, L, R, K) (some (.int r')) (M', L, R, K) := by
  unfold j_X5_take_66 at h
  obtain ⟨M7, hM7, h⟩ := zlt_e h
  refine rn_putI hM7 zf_X5_42 k_b0 zd_X5_take_2.1.2.1.2 ?_
  refine rn_aload_n (q := 0) 0 rfl zd_X5_take_2.1.2.2.1 ?_
  refine rn_aload_n (q := 0) 0 rfl zd_X5_take_2.1.2.2.2 ?_
  refine rn_getR zf_X5_12 (Or.inl ⟨_, rfl⟩) k_a0 (zx_5_0 hW k_a0) zd_X5_take_2.2.1.1 ?_
  refine rn_aload_n (q := 0) 0 rfl zd_X5_take_2.2.1.2.1 ?_
  refine rn_getI zf_X5_39 (Or.inl rfl) k_a0 zd_X5_take_2.2.1.2.2 ?_
  obtain ⟨r8, h9, h⟩ := zbd_e h
  refine rn_callVi (As := [.int (M7 a0 3)]) (rest := [.ref a0]) zl_X5_161 zm_X9_placeOf ⟨by decide, by decide⟩ (ci := 9) rfl rfl (by decide) (zw_5_0 hW k_a0) rfl rfl (Nat.le_of_ble_eq_true rfl) zd_X5_take_2.2.2.1.1 (ok_X9_placeOf hW (zw_5_0 hW k_a0) h9) ?_
  obtain ⟨M10, hM10, h⟩ := zlt_e h
  refine rn_putI hM10 zf_X5_26 k_a0 zd_X5_take_2.2.2.1.2 ?_
  refine rn_iconst (v := 0) zd_X5_take_2.2.2.2.1 rfl ?_
  cases h
  exact rn_zret zd_X5_take_2.2.2.2.2 rfl rfl
def j_X5_take_56 (R : zR) (M : zM) (a0 : Nat) (x2 : Int32) : Option (Int32 × zM) :=
  if x2 = 0 then (
    j_X5_take_66 R M a0 a0 (1 : Int32)
  ) else (
    j_X5_take_66 R M a0 a0 (2 : Int32)
  )
set_option maxRecDepth 4000 in
theorem ok_j_X5_take_56 {G : zG} {K : zK} {R : zR} {M : zM} {L : zL} (hW : zWT R K) {a0 : Nat} {x2 : Int32} (k_a0 : K[a0]? = some (5, 10)) {r' : Int32} {M' : zM} (h : j_X5_take_56 R M a0 x2 = some (r', M')) : Rn G mt_X5_take 56 [(0, .ref a0), (2, .int x2)] [] (M, L, R, K) (some (.int r')) (M', L, R, K) := by
  unfold j_X5_take_56 at h
  refine rn_aload_n (q := 0) 0 rfl zd_X5_take_1.2.2.2.1 ?_
  refine rn_iload_n (q := 2) 1 rfl zd_X5_take_1.2.2.2.2 ?_
  rcases zif_e h with ⟨hc6, h⟩ | ⟨hc6, h⟩
  · refine rn_if_eq_t (tgt := 65) hc6 zd_X5_take_2.1.1.1 rfl ?_
    refine rn_iconst (v := 1) zd_X5_take_2.1.2.1.1 rfl ?_
    exact rn_sub (ls' := [(0, .ref a0)]) [0] rfl (ok_j_X5_take_66 hW k_a0 k_a0 h)
  · refine rn_if_eq_f (tgt := 65) hc6 zd_X5_take_2.1.1.1 rfl ?_
    refine rn_iconst (v := 2) zd_X5_take_2.1.1.2.1 rfl ?_
    refine rn_goto (tgt := 66) zd_X5_take_2.1.1.2.2 rfl ?_
    exact rn_sub (ls' := [(0, .ref a0)]) [0] rfl (ok_j_X5_take_66 hW k_a0 k_a0 h)
def j_X5_take_29 (R : zR) (M : zM) (a0 : Nat) (s0 : Int32) : Option (Int32 × zM) :=
  if s0 = 0 then (
    j_X5_take_56 R M a0 s0
  ) else (
    if (400 : Int32) ≤ (M a0 3) then (
      j_X5_take_56 R M a0 s0
    ) else (
      zlt (zup M a0 3 ((M a0 3) + (1 : Int32))) fun M12 =>
      some ((1 : Int32), M12)
    )
  )
set_option maxRecDepth 4000 in
theorem ok_j_X5_take_29 {G : zG} {K : zK} {R : zR} {M : zM} {L : zL} (hW : zWT R K) {a0 : Nat} {s0 : Int32} (k_a0 : K[a0]? = some (5, 10)) {r' : Int32} {M' : zM} (h : j_X5_take_29 R M a0 s0 = some (r', M')) : Rn G mt_X5_take 29 [(0, .ref a0)] [.int s0] (M, L, R, K) (some (.int r')) (M', L, R, K) := by
  unfold j_X5_take_29 at h
  refine rn_istore_n (q := 2) (ls' := [(2, .int s0), (0, .ref a0)]) (by decide) rfl zd_X5_take_0.2.2.2.2 ?_
  refine rn_iload_n (q := 2) 0 rfl zd_X5_take_1.1.1.1.1 ?_
  rcases zif_e h with ⟨hc5, h⟩ | ⟨hc5, h⟩
  · refine rn_if_eq_t (tgt := 56) hc5 zd_X5_take_1.1.1.1.2 rfl ?_
    exact rn_sub (ls' := [(0, .ref a0), (2, .int s0)]) [1, 0] rfl (ok_j_X5_take_56 hW k_a0 h)
  · refine rn_if_eq_f (tgt := 56) hc5 zd_X5_take_1.1.1.1.2 rfl ?_
    refine rn_aload_n (q := 0) 1 rfl zd_X5_take_1.1.1.2.1 ?_
    refine rn_getI zf_X5_39 (Or.inl rfl) k_a0 zd_X5_take_1.1.1.2.2 ?_
    refine rn_sipush (v := 400) zd_X5_take_1.1.2.1.1 rfl ?_
    rcases zif_e h with ⟨hc11, h⟩ | ⟨hc11, h⟩
    · refine rn_icmp_ge_t (tgt := 56) hc11 zd_X5_take_1.1.2.1.2 rfl ?_
      exact rn_sub (ls' := [(0, .ref a0), (2, .int s0)]) [1, 0] rfl (ok_j_X5_take_56 hW k_a0 h)
    · refine rn_icmp_ge_f (tgt := 56) hc11 zd_X5_take_1.1.2.1.2 rfl ?_
      refine rn_aload_n (q := 0) 1 rfl zd_X5_take_1.1.2.2.1 ?_
      refine rn_dup zd_X5_take_1.1.2.2.2 rfl ?_
      refine rn_getI zf_X5_39 (Or.inl rfl) k_a0 zd_X5_take_1.2.1.1.1 ?_
      refine rn_iconst (v := 1) zd_X5_take_1.2.1.1.2 rfl ?_
      refine rn_iadd zd_X5_take_1.2.1.2.1 ?_
      obtain ⟨M12, hM12, h⟩ := zlt_e h
      refine rn_putI hM12 zf_X5_39 k_a0 zd_X5_take_1.2.1.2.2 ?_
      refine rn_iconst (v := 1) zd_X5_take_1.2.2.1.1 rfl ?_
      cases h
      exact rn_zret zd_X5_take_1.2.2.1.2 rfl rfl
def f_X5_take (R : zR) (M : zM) (a0 : Nat) (x1 : Int32) : Option (Int32 × zM) :=
  if (M a0 6) = 0 then (
    zbd (f_X9_kindAt R M (R a0 0) (M a0 3)) fun r2 =>
    if r2 = x1 then (
      j_X5_take_29 R M a0 (1 : Int32)
    ) else (
      j_X5_take_29 R M a0 (0 : Int32)
    )
  ) else (
    some ((0 : Int32), M)
  )
set_option maxRecDepth 4000 in
theorem ok_X5_take {G : zG} {K : zK} {R : zR} {M : zM} {L : zL} (hW : zWT R K) {a0 : Nat} {x1 : Int32} (k_a0 : K[a0]? = some (5, 10)) {r' : Int32} {M' : zM} (h : f_X5_take R M a0 x1 = some (r', M')) : Rm G mt_X5_take [.ref a0, .int x1] (M, L, R, K) (some (.int r')) (M', L, R, K) := by
  refine rm_rn rfl rfl (Nat.le_of_ble_eq_true rfl) ?_
  show Rn G mt_X5_take 0 [(0, .ref a0), (1, .int x1)] [] (M, L, R, K) (some (.int r')) (M', L, R, K)
  unfold f_X5_take at h
  refine rn_aload_n (q := 0) 0 rfl zd_X5_take_0.1.1.1.1 ?_
  refine rn_getI zf_X5_42 (Or.inl rfl) k_a0 zd_X5_take_0.1.1.1.2 ?_
  rcases zif_e h with ⟨hc1, h⟩ | ⟨hc1, h⟩
  · refine rn_if_eq_t (tgt := 9) hc1 zd_X5_take_0.1.1.2.1 rfl ?_
    refine rn_aload_n (q := 0) 0 rfl zd_X5_take_0.1.2.1.2 ?_
    refine rn_getR zf_X5_12 (Or.inl ⟨_, rfl⟩) k_a0 (zx_5_0 hW k_a0) zd_X5_take_0.1.2.2.1 ?_
    refine rn_aload_n (q := 0) 0 rfl zd_X5_take_0.1.2.2.2 ?_
    refine rn_getI zf_X5_39 (Or.inl rfl) k_a0 zd_X5_take_0.2.1.1.1 ?_
    obtain ⟨r2, h3, h⟩ := zbd_e h
    refine rn_callVi (As := [.int (M a0 3)]) (rest := []) zl_X5_51 zm_X9_kindAt ⟨by decide, by decide⟩ (ci := 9) rfl rfl (by decide) (zw_5_0 hW k_a0) rfl rfl (Nat.le_of_ble_eq_true rfl) zd_X5_take_0.2.1.1.2 (ok_X9_kindAt hW (zw_5_0 hW k_a0) h3) ?_
    refine rn_iload_n (q := 1) 1 rfl zd_X5_take_0.2.1.2.1 ?_
    rcases zif_e h with ⟨hc4, h⟩ | ⟨hc4, h⟩
    · refine rn_icmp_ne_f (tgt := 28) hc4 zd_X5_take_0.2.1.2.2 rfl ?_
      refine rn_iconst (v := 1) zd_X5_take_0.2.2.1.1 rfl ?_
      refine rn_goto (tgt := 29) zd_X5_take_0.2.2.1.2 rfl ?_
      exact rn_sub (ls' := [(0, .ref a0)]) [0] rfl (ok_j_X5_take_29 hW k_a0 h)
    · refine rn_icmp_ne_t (tgt := 28) hc4 zd_X5_take_0.2.1.2.2 rfl ?_
      refine rn_iconst (v := 0) zd_X5_take_0.2.2.2.1 rfl ?_
      exact rn_sub (ls' := [(0, .ref a0)]) [0] rfl (ok_j_X5_take_29 hW k_a0 h)
  · refine rn_if_eq_f (tgt := 9) hc1 zd_X5_take_0.1.1.2.1 rfl ?_
    refine rn_iconst (v := 0) zd_X5_take_0.1.1.2.2 rfl ?_
    cases h
    exact rn_zret zd_X5_take_0.1.2.1.1 rfl rfl
def f_X5_failLater (R : zR) (M : zM) (a0 : Nat) (x1 : Int32) (x2 : Int32) : Option (zM) :=
  if (M a0 8) = 0 then (
    zlt (zup M a0 8 x2) fun M2 =>
    zbd (f_X9_placeOf R M2 (R a0 0) x1) fun r3 =>
    zlt (zup M2 a0 9 r3) fun M5 =>
    some M5
  ) else (
    some M
  )
set_option maxRecDepth 4000 in
theorem ok_X5_failLater {G : zG} {K : zK} {R : zR} {M : zM} {L : zL} (hW : zWT R K) {a0 : Nat} {x1 : Int32} {x2 : Int32} (k_a0 : K[a0]? = some (5, 10)) {M' : zM} (h : f_X5_failLater R M a0 x1 x2 = some M') : Rm G mt_X5_failLater [.ref a0, .int x1, .int x2] (M, L, R, K) none (M', L, R, K) := by
  refine rm_rn rfl rfl (Nat.le_of_ble_eq_true rfl) ?_
  show Rn G mt_X5_failLater 0 [(0, .ref a0), (1, .int x1), (2, .int x2)] [] (M, L, R, K) none (M', L, R, K)
  unfold f_X5_failLater at h
  refine rn_aload_n (q := 0) 0 rfl zd_X5_failLater_0.1.1.1 ?_
  refine rn_getI zf_X5_45 (Or.inl rfl) k_a0 zd_X5_failLater_0.1.1.2.1 ?_
  rcases zif_e h with ⟨hc1, h⟩ | ⟨hc1, h⟩
  · refine rn_if_eq_t (tgt := 8) hc1 zd_X5_failLater_0.1.1.2.2 rfl ?_
    refine rn_aload_n (q := 0) 0 rfl zd_X5_failLater_0.1.2.1.2 ?_
    refine rn_iload_n (q := 2) 2 rfl zd_X5_failLater_0.1.2.2.1 ?_
    obtain ⟨M2, hM2, h⟩ := zlt_e h
    refine rn_putI hM2 zf_X5_45 k_a0 zd_X5_failLater_0.1.2.2.2 ?_
    refine rn_aload_n (q := 0) 0 rfl zd_X5_failLater_0.2.1.1 ?_
    refine rn_aload_n (q := 0) 0 rfl zd_X5_failLater_0.2.1.2.1 ?_
    refine rn_getR zf_X5_12 (Or.inl ⟨_, rfl⟩) k_a0 (zx_5_0 hW k_a0) zd_X5_failLater_0.2.1.2.2 ?_
    refine rn_iload_n (q := 1) 1 rfl zd_X5_failLater_0.2.2.1.1 ?_
    obtain ⟨r3, h4, h⟩ := zbd_e h
    refine rn_callVi (As := [.int x1]) (rest := [.ref a0]) zl_X5_161 zm_X9_placeOf ⟨by decide, by decide⟩ (ci := 9) rfl rfl (by decide) (zw_5_0 hW k_a0) rfl rfl (Nat.le_of_ble_eq_true rfl) zd_X5_failLater_0.2.2.1.2 (ok_X9_placeOf hW (zw_5_0 hW k_a0) h4) ?_
    obtain ⟨M5, hM5, h⟩ := zlt_e h
    refine rn_putI hM5 zf_X5_48 k_a0 zd_X5_failLater_0.2.2.2.1 ?_
    cases h
    exact rn_vret zd_X5_failLater_0.2.2.2.2 rfl
  · refine rn_if_eq_f (tgt := 8) hc1 zd_X5_failLater_0.1.1.2.2 rfl ?_
    cases h
    exact rn_vret zd_X5_failLater_0.1.2.1.1 rfl
abbrev P_X5_tellHouse_71 (G : zG) (K : zK) (R : zR) (L : zL) (a0 : Nat) (a1 : Nat) (x2 : Int32) (x3 : Int32) (r : Option Value) (S' : zS) (v : Int32 × zM) : Prop := Rn G mt_X5_tellHouse 71 [(0, .ref a0), (1, .ref a1), (2, .int x2), (3, .int x3), (4, .int v.1)] [] (v.2, L, R, K) r S'
abbrev Q_X5_tellHouse_71 (G : zG) (K : zK) (R : zR) (L : zL) (a0 : Nat) (a1 : Nat) (x2 : Int32) (x3 : Int32) (r : Option Value) (S' : zS) : (zM) → Prop := (fun e => Rn G mt_X5_tellHouse 121 [(0, .ref a0), (1, .ref a1), (2, .int x2), (3, .int x3)] [] (e, L, R, K) r S')
def b_X5_tellHouse_71 (R : zR) (M : zM) (L : zL) (a0 : Nat) (a1 : Nat) (x2 : Int32) (x3 : Int32) (x4 : Int32) : Option ((Int32 × zM) ⊕ ((zM))) :=
  if (M a1 5) ≤ x4 then (
    some (.inr M)
  ) else (
    if (10 : Int32) ≤ x4 then (
      some (.inr M)
    ) else (
      zck (zin x4 10) <|
      zbd (f_X9_valueOf R L (R a0 0) x2) fun r21 =>
      if (lg_cmp (L (R a0 1) (ztn x4)) r21) = 0 then (
        zbd (f_X5_failLater R M a0 x2 (3 : Int32)) fun M24 =>
        some (.inl ((x4 + 1), M24))
      ) else (
        some (.inl ((x4 + 1), M))
      )
    )
  )
set_option maxRecDepth 4000 in
theorem ok_b_X5_tellHouse_71 {G : zG} {K : zK} {R : zR} {M : zM} {L : zL} (hW : zWT R K) {a0 : Nat} {a1 : Nat} {x2 : Int32} {x3 : Int32} {x4 : Int32} (k_a0 : K[a0]? = some (5, 10)) (k_a1 : K[a1]? = some (7, 11)) {r : Option Value} {S' : zS} {x : (Int32 × zM) ⊕ ((zM))} (h : b_X5_tellHouse_71 R M L a0 a1 x2 x3 x4 = some x) (hk : Sum.elim (P_X5_tellHouse_71 G K R L a0 a1 x2 x3 r S') (Q_X5_tellHouse_71 G K R L a0 a1 x2 x3 r S') x) : P_X5_tellHouse_71 G K R L a0 a1 x2 x3 r S' (x4, M) := by
  show Rn G mt_X5_tellHouse 71 [(0, .ref a0), (1, .ref a1), (2, .int x2), (3, .int x3), (4, .int x4)] [] (M, L, R, K) r S'
  unfold b_X5_tellHouse_71 at h
  refine rn_iload 4 rfl zd_X5_tellHouse_2.1.2.2.2 ?_
  refine rn_aload_n (q := 1) 1 rfl zd_X5_tellHouse_2.2.1.1.1 ?_
  refine rn_getI zf_X5_91 (Or.inl rfl) k_a1 zd_X5_tellHouse_2.2.1.1.2 ?_
  rcases zif_e h with ⟨hc18, h⟩ | ⟨hc18, h⟩
  · refine rn_icmp_ge_t (tgt := 121) hc18 zd_X5_tellHouse_2.2.1.2.1 rfl ?_
    cases h
    exact rn_sub (ls' := [(0, .ref a0), (1, .ref a1), (2, .int x2), (3, .int x3)]) [0, 1, 2, 3] rfl hk
  · refine rn_icmp_ge_f (tgt := 121) hc18 zd_X5_tellHouse_2.2.1.2.1 rfl ?_
    refine rn_iload 4 rfl zd_X5_tellHouse_2.2.1.2.2 ?_
    refine rn_aload_n (q := 0) 0 rfl zd_X5_tellHouse_2.2.2.1.1 ?_
    refine rn_getR zf_X5_18 (Or.inr ⟨_, rfl⟩) k_a0 (zx_5_1 hW k_a0) zd_X5_tellHouse_2.2.2.1.2 ?_
    refine rn_alen (v := 10) (zw_5_1 hW k_a0) (Or.inr (Or.inr (Or.inr (Or.inl rfl)))) rfl zd_X5_tellHouse_2.2.2.2.1 ?_
    rcases zif_e h with ⟨hc19, h⟩ | ⟨hc19, h⟩
    · refine rn_icmp_ge_t (tgt := 121) hc19 zd_X5_tellHouse_2.2.2.2.2 rfl ?_
      cases h
      exact rn_sub (ls' := [(0, .ref a0), (1, .ref a1), (2, .int x2), (3, .int x3)]) [0, 1, 2, 3] rfl hk
    · refine rn_icmp_ge_f (tgt := 121) hc19 zd_X5_tellHouse_2.2.2.2.2 rfl ?_
      refine rn_aload_n (q := 0) 0 rfl zd_X5_tellHouse_3.1.1.1.1 ?_
      refine rn_getR zf_X5_18 (Or.inr ⟨_, rfl⟩) k_a0 (zx_5_1 hW k_a0) zd_X5_tellHouse_3.1.1.1.2 ?_
      refine rn_iload 4 rfl zd_X5_tellHouse_3.1.1.2.1 ?_
      obtain ⟨hc20, h⟩ := zck_e h
      refine rn_lald (zw_5_1 hW k_a0) hc20 zd_X5_tellHouse_3.1.1.2.2 ?_
      refine rn_aload_n (q := 0) 0 rfl zd_X5_tellHouse_3.1.2.1.1 ?_
      refine rn_getR zf_X5_12 (Or.inl ⟨_, rfl⟩) k_a0 (zx_5_0 hW k_a0) zd_X5_tellHouse_3.1.2.1.2 ?_
      refine rn_iload_n (q := 2) 2 rfl zd_X5_tellHouse_3.1.2.2.1 ?_
      obtain ⟨r21, h22, h⟩ := zbd_e h
      refine rn_callVl (As := [.int x2]) (rest := [.long (L (R a0 1) (ztn x4))]) zl_X5_94 zm_X9_valueOf ⟨by decide, by decide⟩ (ci := 9) rfl rfl (by decide) (zw_5_0 hW k_a0) rfl rfl (Nat.le_of_ble_eq_true rfl) zd_X5_tellHouse_3.1.2.2.2 (ok_X9_valueOf hW (zw_5_0 hW k_a0) h22) ?_
      refine rn_lcmp zd_X5_tellHouse_3.2.1.1.1 ?_
      rcases zif_e h with ⟨hc23, h⟩ | ⟨hc23, h⟩
      · refine rn_if_ne_f (tgt := 115) hc23 zd_X5_tellHouse_3.2.1.1.2 rfl ?_
        refine rn_aload_n (q := 0) 0 rfl zd_X5_tellHouse_3.2.1.2.1 ?_
        refine rn_iload_n (q := 2) 2 rfl zd_X5_tellHouse_3.2.1.2.2 ?_
        refine rn_iconst (v := 3) zd_X5_tellHouse_3.2.2.1.1 rfl ?_
        obtain ⟨M24, h25, h⟩ := zbd_e h
        refine rn_callVv (As := [.int x2, .int (3 : Int32)]) (rest := []) zl_X5_98 zm_X5_failLater ⟨by decide, by decide⟩ (ci := 5) rfl rfl (by decide) k_a0 rfl rfl (Nat.le_of_ble_eq_true rfl) zd_X5_tellHouse_3.2.2.1.2 (ok_X5_failLater hW k_a0 h25) ?_
        refine rn_iinc (v := (x4 + 1)) (ls' := [(4, .int (x4 + 1)), (0, .ref a0), (1, .ref a1), (2, .int x2), (3, .int x3)]) 4 rfl rfl (by decide) rfl zd_X5_tellHouse_3.2.2.2.1 ?_
        refine rn_goto (tgt := 71) zd_X5_tellHouse_3.2.2.2.2 rfl ?_
        cases h
        exact rn_sub (ls' := [(0, .ref a0), (1, .ref a1), (2, .int x2), (3, .int x3), (4, .int (x4 + 1))]) [1, 2, 3, 4, 0] rfl hk
      · refine rn_if_ne_t (tgt := 115) hc23 zd_X5_tellHouse_3.2.1.1.2 rfl ?_
        refine rn_iinc (v := (x4 + 1)) (ls' := [(4, .int (x4 + 1)), (0, .ref a0), (1, .ref a1), (2, .int x2), (3, .int x3)]) 4 rfl rfl (by decide) rfl zd_X5_tellHouse_3.2.2.2.1 ?_
        refine rn_goto (tgt := 71) zd_X5_tellHouse_3.2.2.2.2 rfl ?_
        cases h
        exact rn_sub (ls' := [(0, .ref a0), (1, .ref a1), (2, .int x2), (3, .int x3), (4, .int (x4 + 1))]) [1, 2, 3, 4, 0] rfl hk
def j_X5_tellHouse_157 (R : zR) (M : zM) (L : zL) (a0 : Nat) (a1 : Nat) (x3 : Int32) : Option (zM × zL) :=
  zbd (f_X9_valueOf R L (R a0 0) x3) fun r28 =>
  zbd (f_X7_addHouse R M a1 r28.toInt32) fun M30 =>
  some (M30, L)
set_option maxRecDepth 4000 in
theorem ok_j_X5_tellHouse_157 {G : zG} {K : zK} {R : zR} {M : zM} {L : zL} (hW : zWT R K) {a0 : Nat} {a1 : Nat} {x3 : Int32} (k_a0 : K[a0]? = some (5, 10)) (k_a1 : K[a1]? = some (7, 11)) {M' : zM} {L' : zL} (h : j_X5_tellHouse_157 R M L a0 a1 x3 = some (M', L')) : Rn G mt_X5_tellHouse 157 [(0, .ref a0), (1, .ref a1), (3, .int x3)] [] (M, L, R, K) none (M', L', R, K) := by
  unfold j_X5_tellHouse_157 at h
  refine rn_aload_n (q := 1) 1 rfl zd_X5_tellHouse_5.1.2.1 ?_
  refine rn_aload_n (q := 0) 0 rfl zd_X5_tellHouse_5.1.2.2.1 ?_
  refine rn_getR zf_X5_12 (Or.inl ⟨_, rfl⟩) k_a0 (zx_5_0 hW k_a0) zd_X5_tellHouse_5.1.2.2.2 ?_
  refine rn_iload_n (q := 3) 2 rfl zd_X5_tellHouse_5.2.1.1 ?_
  obtain ⟨r28, h29, h⟩ := zbd_e h
  refine rn_callVl (As := [.int x3]) (rest := [.ref a1]) zl_X5_94 zm_X9_valueOf ⟨by decide, by decide⟩ (ci := 9) rfl rfl (by decide) (zw_5_0 hW k_a0) rfl rfl (Nat.le_of_ble_eq_true rfl) zd_X5_tellHouse_5.2.1.2 (ok_X9_valueOf hW (zw_5_0 hW k_a0) h29) ?_
  refine rn_l2i zd_X5_tellHouse_5.2.2.1 ?_
  obtain ⟨M30, h31, h⟩ := zbd_e h
  refine rn_callVv (As := [.int r28.toInt32]) (rest := []) zl_X5_101 zm_X7_addHouse ⟨by decide, by decide⟩ (ci := 7) rfl rfl (by decide) k_a1 rfl rfl (Nat.le_of_ble_eq_true rfl) zd_X5_tellHouse_5.2.2.2.1 (ok_X7_addHouse hW k_a1 h31) ?_
  cases h
  exact rn_vret zd_X5_tellHouse_5.2.2.2.2 rfl
def f_X5_tellHouse (R : zR) (M : zM) (L : zL) (a0 : Nat) (a1 : Nat) : Option (zM × zL) :=
  if (M a1 5) < (10 : Int32) then (
    zbd2 (f_X5_take R M a0 (100 : Int32)) fun r2 M3 =>
    if r2 = 0 then (
      some (M3, L)
    ) else (
      zbd2 (f_X5_take R M3 a0 (2 : Int32)) fun r6 M7 =>
      if r6 = 0 then (
        some (M7, L)
      ) else (
        zbd2 (f_X5_take R M7 a0 (3 : Int32)) fun r10 M11 =>
        if r10 = 0 then (
          some (M11, L)
        ) else (
          zbd2 (f_X5_take R M11 a0 (59 : Int32)) fun r14 M15 =>
          if r14 = 0 then (
            some (M15, L)
          ) else (
            zbd (zloop zN (fun v => b_X5_tellHouse_71 R v.2 L a0 a1 ((M a0 3) + (1 : Int32)) ((M a0 3) + (2 : Int32)) v.1) ((0 : Int32), M15)) fun e26 =>
            if (e26 a1 5) < 0 then (
              j_X5_tellHouse_157 R e26 L a0 a1 ((M a0 3) + (2 : Int32))
            ) else (
              if (10 : Int32) ≤ (e26 a1 5) then (
                j_X5_tellHouse_157 R e26 L a0 a1 ((M a0 3) + (2 : Int32))
              ) else (
                zbd (f_X9_valueOf R L (R a0 0) ((M a0 3) + (1 : Int32))) fun r33 =>
                zck (zin (e26 a1 5) 10) <|
                zlt (zupL L (R a0 1) (ztn (e26 a1 5)) r33) fun L36 =>
                j_X5_tellHouse_157 R e26 L36 a0 a1 ((M a0 3) + (2 : Int32))
              )
            )
          )
        )
      )
    )
  ) else (
    zbd (f_X5_failAt R M a0 (M a0 3) (2 : Int32)) fun M37 =>
    some (M37, L)
  )
set_option maxRecDepth 4000 in
theorem ok_X5_tellHouse {G : zG} {K : zK} {R : zR} {M : zM} {L : zL} (hW : zWT R K) {a0 : Nat} {a1 : Nat} (k_a0 : K[a0]? = some (5, 10)) (k_a1 : K[a1]? = some (7, 11)) {M' : zM} {L' : zL} (h : f_X5_tellHouse R M L a0 a1 = some (M', L')) : Rm G mt_X5_tellHouse [.ref a0, .ref a1] (M, L, R, K) none (M', L', R, K) := by
  refine rm_rn rfl rfl (Nat.le_of_ble_eq_true rfl) ?_
  show Rn G mt_X5_tellHouse 0 [(0, .ref a0), (1, .ref a1)] [] (M, L, R, K) none (M', L', R, K)
  unfold f_X5_tellHouse at h
  refine rn_aload_n (q := 1) 1 rfl zd_X5_tellHouse_0.1.1.1.1 ?_
  refine rn_getI zf_X5_91 (Or.inl rfl) k_a1 zd_X5_tellHouse_0.1.1.1.2 ?_
  refine rn_bipush (v := 10) zd_X5_tellHouse_0.1.1.2.1 rfl ?_
  rcases zif_e h with ⟨hc1, h⟩ | ⟨hc1, h⟩
  · refine rn_icmp_lt_t (tgt := 19) hc1 zd_X5_tellHouse_0.1.1.2.2 rfl ?_
    refine rn_aload_n (q := 0) 0 rfl zd_X5_tellHouse_0.2.1.2.1 ?_
    refine rn_getI zf_X5_39 (Or.inl rfl) k_a0 zd_X5_tellHouse_0.2.1.2.2 ?_
    refine rn_iconst (v := 1) zd_X5_tellHouse_0.2.2.1.1 rfl ?_
    refine rn_iadd zd_X5_tellHouse_0.2.2.1.2 ?_
    refine rn_istore_n (q := 2) (ls' := [(2, .int ((M a0 3) + (1 : Int32))), (0, .ref a0), (1, .ref a1)]) (by decide) rfl zd_X5_tellHouse_0.2.2.2.1 ?_
    refine rn_aload_n (q := 0) 1 rfl zd_X5_tellHouse_0.2.2.2.2 ?_
    refine rn_getI zf_X5_39 (Or.inl rfl) k_a0 zd_X5_tellHouse_1.1.1.1.1 ?_
    refine rn_iconst (v := 2) zd_X5_tellHouse_1.1.1.1.2 rfl ?_
    refine rn_iadd zd_X5_tellHouse_1.1.1.2.1 ?_
    refine rn_istore_n (q := 3) (ls' := [(3, .int ((M a0 3) + (2 : Int32))), (2, .int ((M a0 3) + (1 : Int32))), (0, .ref a0), (1, .ref a1)]) (by decide) rfl zd_X5_tellHouse_1.1.1.2.2 ?_
    refine rn_aload_n (q := 0) 2 rfl zd_X5_tellHouse_1.1.2.1.1 ?_
    refine rn_bipush (v := 100) zd_X5_tellHouse_1.1.2.1.2 rfl ?_
    obtain ⟨r2, M3, h4, h⟩ := zbd2_e h
    refine rn_callVi (As := [.int (100 : Int32)]) (rest := []) zl_X5_59 zm_X5_take ⟨by decide, by decide⟩ (ci := 5) rfl rfl (by decide) k_a0 rfl rfl (Nat.le_of_ble_eq_true rfl) zd_X5_tellHouse_1.1.2.2.1 (ok_X5_take hW k_a0 h4) ?_
    rcases zif_e h with ⟨hc5, h⟩ | ⟨hc5, h⟩
    · refine rn_if_eq_t (tgt := 67) hc5 zd_X5_tellHouse_1.1.2.2.2 rfl ?_
      cases h
      exact rn_vret zd_X5_tellHouse_2.1.2.1.1 rfl
    · refine rn_if_eq_f (tgt := 67) hc5 zd_X5_tellHouse_1.1.2.2.2 rfl ?_
      refine rn_aload_n (q := 0) 2 rfl zd_X5_tellHouse_1.2.1.1.1 ?_
      refine rn_iconst (v := 2) zd_X5_tellHouse_1.2.1.1.2 rfl ?_
      obtain ⟨r6, M7, h8, h⟩ := zbd2_e h
      refine rn_callVi (As := [.int (2 : Int32)]) (rest := []) zl_X5_59 zm_X5_take ⟨by decide, by decide⟩ (ci := 5) rfl rfl (by decide) k_a0 rfl rfl (Nat.le_of_ble_eq_true rfl) zd_X5_tellHouse_1.2.1.2.1 (ok_X5_take hW k_a0 h8) ?_
      rcases zif_e h with ⟨hc9, h⟩ | ⟨hc9, h⟩
      · refine rn_if_eq_t (tgt := 67) hc9 zd_X5_tellHouse_1.2.1.2.2 rfl ?_
        cases h
        exact rn_vret zd_X5_tellHouse_2.1.2.1.1 rfl
      · refine rn_if_eq_f (tgt := 67) hc9 zd_X5_tellHouse_1.2.1.2.2 rfl ?_
        refine rn_aload_n (q := 0) 2 rfl zd_X5_tellHouse_1.2.2.1.1 ?_
        refine rn_iconst (v := 3) zd_X5_tellHouse_1.2.2.1.2 rfl ?_
        obtain ⟨r10, M11, h12, h⟩ := zbd2_e h
        refine rn_callVi (As := [.int (3 : Int32)]) (rest := []) zl_X5_59 zm_X5_take ⟨by decide, by decide⟩ (ci := 5) rfl rfl (by decide) k_a0 rfl rfl (Nat.le_of_ble_eq_true rfl) zd_X5_tellHouse_1.2.2.2.1 (ok_X5_take hW k_a0 h12) ?_
        rcases zif_e h with ⟨hc13, h⟩ | ⟨hc13, h⟩
        · refine rn_if_eq_t (tgt := 67) hc13 zd_X5_tellHouse_1.2.2.2.2 rfl ?_
          cases h
          exact rn_vret zd_X5_tellHouse_2.1.2.1.1 rfl
        · refine rn_if_eq_f (tgt := 67) hc13 zd_X5_tellHouse_1.2.2.2.2 rfl ?_
          refine rn_aload_n (q := 0) 2 rfl zd_X5_tellHouse_2.1.1.1.1 ?_
          refine rn_bipush (v := 59) zd_X5_tellHouse_2.1.1.1.2 rfl ?_
          obtain ⟨r14, M15, h16, h⟩ := zbd2_e h
          refine rn_callVi (As := [.int (59 : Int32)]) (rest := []) zl_X5_59 zm_X5_take ⟨by decide, by decide⟩ (ci := 5) rfl rfl (by decide) k_a0 rfl rfl (Nat.le_of_ble_eq_true rfl) zd_X5_tellHouse_2.1.1.2.1 (ok_X5_take hW k_a0 h16) ?_
          rcases zif_e h with ⟨hc17, h⟩ | ⟨hc17, h⟩
          · refine rn_if_ne_f (tgt := 68) hc17 zd_X5_tellHouse_2.1.1.2.2 rfl ?_
            cases h
            exact rn_vret zd_X5_tellHouse_2.1.2.1.1 rfl
          · refine rn_if_ne_t (tgt := 68) hc17 zd_X5_tellHouse_2.1.1.2.2 rfl ?_
            refine rn_iconst (v := 0) zd_X5_tellHouse_2.1.2.1.2 rfl ?_
            refine rn_istore (ls' := [(4, .int (0 : Int32)), (3, .int ((M a0 3) + (2 : Int32))), (2, .int ((M a0 3) + (1 : Int32))), (0, .ref a0), (1, .ref a1)]) (by decide) rfl zd_X5_tellHouse_2.1.2.2.1 ?_
            obtain ⟨e26, he26, h⟩ := zbd_e h
            refine rn_sub (ls' := [(0, .ref a0), (1, .ref a1), (2, .int ((M a0 3) + (1 : Int32))), (3, .int ((M a0 3) + (2 : Int32))), (4, .int (0 : Int32))]) [3, 4, 2, 1, 0] rfl (zloop_ok (P := P_X5_tellHouse_71 G K R L a0 a1 ((M a0 3) + (1 : Int32)) ((M a0 3) + (2 : Int32)) none (M', L', R, K)) (Q := Q_X5_tellHouse_71 G K R L a0 a1 ((M a0 3) + (1 : Int32)) ((M a0 3) + (2 : Int32)) none (M', L', R, K)) (fun v x hx hq => ok_b_X5_tellHouse_71 hW k_a0 k_a1 hx hq) _ _ _ he26 ?_)
            show Rn G mt_X5_tellHouse 121 [(0, .ref a0), (1, .ref a1), (2, .int ((M a0 3) + (1 : Int32))), (3, .int ((M a0 3) + (2 : Int32)))] [] (e26, L, R, K) none (M', L', R, K)
            refine rn_aload_n (q := 1) 1 rfl zd_X5_tellHouse_4.1.1.1.1 ?_
            refine rn_getI zf_X5_91 (Or.inl rfl) k_a1 zd_X5_tellHouse_4.1.1.1.2 ?_
            rcases zif_e h with ⟨hc27, h⟩ | ⟨hc27, h⟩
            · refine rn_if_lt_t (tgt := 157) hc27 zd_X5_tellHouse_4.1.1.2.1 rfl ?_
              exact rn_sub (ls' := [(0, .ref a0), (1, .ref a1), (3, .int ((M a0 3) + (2 : Int32)))]) [0, 1, 3] rfl (ok_j_X5_tellHouse_157 hW k_a0 k_a1 h)
            · refine rn_if_lt_f (tgt := 157) hc27 zd_X5_tellHouse_4.1.1.2.1 rfl ?_
              refine rn_aload_n (q := 1) 1 rfl zd_X5_tellHouse_4.1.1.2.2 ?_
              refine rn_getI zf_X5_91 (Or.inl rfl) k_a1 zd_X5_tellHouse_4.1.2.1.1 ?_
              refine rn_aload_n (q := 0) 0 rfl zd_X5_tellHouse_4.1.2.1.2 ?_
              refine rn_getR zf_X5_18 (Or.inr ⟨_, rfl⟩) k_a0 (zx_5_1 hW k_a0) zd_X5_tellHouse_4.1.2.2.1 ?_
              refine rn_alen (v := 10) (zw_5_1 hW k_a0) (Or.inr (Or.inr (Or.inr (Or.inl rfl)))) rfl zd_X5_tellHouse_4.1.2.2.2 ?_
              rcases zif_e h with ⟨hc32, h⟩ | ⟨hc32, h⟩
              · refine rn_icmp_ge_t (tgt := 157) hc32 zd_X5_tellHouse_4.2.1.1.1 rfl ?_
                exact rn_sub (ls' := [(0, .ref a0), (1, .ref a1), (3, .int ((M a0 3) + (2 : Int32)))]) [0, 1, 3] rfl (ok_j_X5_tellHouse_157 hW k_a0 k_a1 h)
              · refine rn_icmp_ge_f (tgt := 157) hc32 zd_X5_tellHouse_4.2.1.1.1 rfl ?_
                refine rn_aload_n (q := 0) 0 rfl zd_X5_tellHouse_4.2.1.1.2 ?_
                refine rn_getR zf_X5_18 (Or.inr ⟨_, rfl⟩) k_a0 (zx_5_1 hW k_a0) zd_X5_tellHouse_4.2.1.2.1 ?_
                refine rn_aload_n (q := 1) 1 rfl zd_X5_tellHouse_4.2.1.2.2 ?_
                refine rn_getI zf_X5_91 (Or.inl rfl) k_a1 zd_X5_tellHouse_4.2.2.1.1 ?_
                refine rn_aload_n (q := 0) 0 rfl zd_X5_tellHouse_4.2.2.1.2 ?_
                refine rn_getR zf_X5_12 (Or.inl ⟨_, rfl⟩) k_a0 (zx_5_0 hW k_a0) zd_X5_tellHouse_4.2.2.2.1 ?_
                refine rn_iload_n (q := 2) 2 rfl zd_X5_tellHouse_4.2.2.2.2 ?_
                obtain ⟨r33, h34, h⟩ := zbd_e h
                refine rn_callVl (As := [.int ((M a0 3) + (1 : Int32))]) (rest := [.int (e26 a1 5), .ref (R a0 1)]) zl_X5_94 zm_X9_valueOf ⟨by decide, by decide⟩ (ci := 9) rfl rfl (by decide) (zw_5_0 hW k_a0) rfl rfl (Nat.le_of_ble_eq_true rfl) zd_X5_tellHouse_5.1.1.1 (ok_X9_valueOf hW (zw_5_0 hW k_a0) h34) ?_
                obtain ⟨hc35, h⟩ := zck_e h
                obtain ⟨L36, hL36, h⟩ := zlt_e h
                refine rn_last hL36 (zw_5_1 hW k_a0) hc35 zd_X5_tellHouse_5.1.1.2 ?_
                exact rn_sub (ls' := [(0, .ref a0), (1, .ref a1), (3, .int ((M a0 3) + (2 : Int32)))]) [0, 1, 3] rfl (ok_j_X5_tellHouse_157 hW k_a0 k_a1 h)
  · refine rn_icmp_lt_f (tgt := 19) hc1 zd_X5_tellHouse_0.1.1.2.2 rfl ?_
    refine rn_aload_n (q := 0) 0 rfl zd_X5_tellHouse_0.1.2.1.1 ?_
    refine rn_aload_n (q := 0) 0 rfl zd_X5_tellHouse_0.1.2.1.2 ?_
    refine rn_getI zf_X5_39 (Or.inl rfl) k_a0 zd_X5_tellHouse_0.1.2.2.1 ?_
    refine rn_iconst (v := 2) zd_X5_tellHouse_0.1.2.2.2 rfl ?_
    obtain ⟨M37, h38, h⟩ := zbd_e h
    refine rn_callVv (As := [.int (M a0 3), .int (2 : Int32)]) (rest := []) zl_X5_87 zm_X5_failAt ⟨by decide, by decide⟩ (ci := 5) rfl rfl (by decide) k_a0 rfl rfl (Nat.le_of_ble_eq_true rfl) zd_X5_tellHouse_0.2.1.1.1 (ok_X5_failAt hW k_a0 h38) ?_
    cases h
    exact rn_vret zd_X5_tellHouse_0.2.1.1.2 rfl
def f_X5_bond (x0 : Int32) : Option (Int32) :=
  if x0 = (42 : Int32) then (
    some (2 : Int32)
  ) else (
    if x0 = (47 : Int32) then (
      some (2 : Int32)
    ) else (
      if x0 = (43 : Int32) then (
        some (1 : Int32)
      ) else (
        if x0 = (45 : Int32) then (
          some (1 : Int32)
        ) else (
          some (0 : Int32)
        )
      )
    )
  )
set_option maxRecDepth 4000 in
theorem ok_X5_bond {G : zG} {K : zK} {R : zR} {M : zM} {L : zL} (hW : zWT R K) {x0 : Int32} {r' : Int32} (h : f_X5_bond x0 = some r') : Rm G mt_X5_bond [.int x0] (M, L, R, K) (some (.int r')) (M, L, R, K) := by
  refine rm_rn rfl rfl (Nat.le_of_ble_eq_true rfl) ?_
  show Rn G mt_X5_bond 0 [(0, .int x0)] [] (M, L, R, K) (some (.int r')) (M, L, R, K)
  unfold f_X5_bond at h
  refine rn_iload_n (q := 0) 0 rfl zd_X5_bond_0.1.1.1.1 ?_
  refine rn_bipush (v := 42) zd_X5_bond_0.1.1.1.2 rfl ?_
  rcases zif_e h with ⟨hc1, h⟩ | ⟨hc1, h⟩
  · refine rn_icmp_eq_t (tgt := 12) hc1 zd_X5_bond_0.1.1.2.1 rfl ?_
    refine rn_iconst (v := 2) zd_X5_bond_0.1.2.2.1 rfl ?_
    cases h
    exact rn_iret zd_X5_bond_0.1.2.2.2 rfl
  · refine rn_icmp_eq_f (tgt := 12) hc1 zd_X5_bond_0.1.1.2.1 rfl ?_
    refine rn_iload_n (q := 0) 0 rfl zd_X5_bond_0.1.1.2.2 ?_
    refine rn_bipush (v := 47) zd_X5_bond_0.1.2.1.1 rfl ?_
    rcases zif_e h with ⟨hc2, h⟩ | ⟨hc2, h⟩
    · refine rn_icmp_ne_f (tgt := 14) hc2 zd_X5_bond_0.1.2.1.2 rfl ?_
      refine rn_iconst (v := 2) zd_X5_bond_0.1.2.2.1 rfl ?_
      cases h
      exact rn_iret zd_X5_bond_0.1.2.2.2 rfl
    · refine rn_icmp_ne_t (tgt := 14) hc2 zd_X5_bond_0.1.2.1.2 rfl ?_
      refine rn_iload_n (q := 0) 0 rfl zd_X5_bond_0.2.1.1.1 ?_
      refine rn_bipush (v := 43) zd_X5_bond_0.2.1.1.2 rfl ?_
      rcases zif_e h with ⟨hc3, h⟩ | ⟨hc3, h⟩
      · refine rn_icmp_eq_t (tgt := 26) hc3 zd_X5_bond_0.2.1.2.1 rfl ?_
        refine rn_iconst (v := 1) zd_X5_bond_0.2.2.2.1 rfl ?_
        refine rn_goto (tgt := 31) zd_X5_bond_0.2.2.2.2 rfl ?_
        cases h
        exact rn_iret zd_X5_bond_1.2 rfl
      · refine rn_icmp_eq_f (tgt := 26) hc3 zd_X5_bond_0.2.1.2.1 rfl ?_
        refine rn_iload_n (q := 0) 0 rfl zd_X5_bond_0.2.1.2.2 ?_
        refine rn_bipush (v := 45) zd_X5_bond_0.2.2.1.1 rfl ?_
        rcases zif_e h with ⟨hc4, h⟩ | ⟨hc4, h⟩
        · refine rn_icmp_ne_f (tgt := 30) hc4 zd_X5_bond_0.2.2.1.2 rfl ?_
          refine rn_iconst (v := 1) zd_X5_bond_0.2.2.2.1 rfl ?_
          refine rn_goto (tgt := 31) zd_X5_bond_0.2.2.2.2 rfl ?_
          cases h
          exact rn_iret zd_X5_bond_1.2 rfl
        · refine rn_icmp_ne_t (tgt := 30) hc4 zd_X5_bond_0.2.2.1.2 rfl ?_
          refine rn_iconst (v := 0) zd_X5_bond_1.1 rfl ?_
          cases h
          exact rn_iret zd_X5_bond_1.2 rfl
abbrev P_X5_putSigns_15 (G : zG) (K : zK) (R : zR) (L : zL) (a0 : Nat) (a1 : Nat) (x2 : Int32) (r : Option Value) (S' : zS) (v : Int32 × zM) : Prop := Rn G mt_X5_putSigns 15 [(0, .ref a0), (1, .ref a1), (2, .int x2), (3, .int v.1)] [] (v.2, L, R, K) r S'
abbrev Q_X5_putSigns_15 (G : zG) (K : zK) (R : zR) (L : zL) (a0 : Nat) (a1 : Nat) (x2 : Int32) (r : Option Value) (S' : zS) : (zM) → Prop := (fun e => Rn G mt_X5_putSigns 54 [] [] (e, L, R, K) r S')
def b_X5_putSigns_15 (R : zR) (M : zM) (a0 : Nat) (a1 : Nat) (x2 : Int32) (x3 : Int32) : Option ((Int32 × zM) ⊕ ((zM))) :=
  if x3 < 0 then (
    some (.inr M)
  ) else (
    zck (zin x3 21) <|
    zbd (f_X5_bond (M (R a0 2) (ztn x3))) fun r3 =>
    if r3 < x2 then (
      some (.inr M)
    ) else (
      zck (zin x3 21) <|
      zbd (f_X3_add R M a1 (M (R a0 2) (ztn x3)) (0 : Int32)) fun M7 =>
      zlt (zup M7 a0 4 x3) fun M9 =>
      some (.inl ((x3 + (-1)), M9))
    )
  )
set_option maxRecDepth 4000 in
theorem ok_b_X5_putSigns_15 {G : zG} {K : zK} {R : zR} {M : zM} {L : zL} (hW : zWT R K) {a0 : Nat} {a1 : Nat} {x2 : Int32} {x3 : Int32} (k_a0 : K[a0]? = some (5, 10)) (k_a1 : K[a1]? = some (3, 5)) {r : Option Value} {S' : zS} {x : (Int32 × zM) ⊕ ((zM))} (h : b_X5_putSigns_15 R M a0 a1 x2 x3 = some x) (hk : Sum.elim (P_X5_putSigns_15 G K R L a0 a1 x2 r S') (Q_X5_putSigns_15 G K R L a0 a1 x2 r S') x) : P_X5_putSigns_15 G K R L a0 a1 x2 r S' (x3, M) := by
  show Rn G mt_X5_putSigns 15 [(0, .ref a0), (1, .ref a1), (2, .int x2), (3, .int x3)] [] (M, L, R, K) r S'
  unfold b_X5_putSigns_15 at h
  refine rn_iload_n (q := 3) 3 rfl zd_X5_putSigns_0.2.1.1.2 ?_
  rcases zif_e h with ⟨hc1, h⟩ | ⟨hc1, h⟩
  · refine rn_if_lt_t (tgt := 54) hc1 zd_X5_putSigns_0.2.1.2.1 rfl ?_
    cases h
    exact rn_sub (ls' := []) [] rfl hk
  · refine rn_if_lt_f (tgt := 54) hc1 zd_X5_putSigns_0.2.1.2.1 rfl ?_
    refine rn_aload_n (q := 0) 0 rfl zd_X5_putSigns_0.2.1.2.2 ?_
    refine rn_getR zf_X5_22 (Or.inr ⟨_, rfl⟩) k_a0 (zx_5_2 hW k_a0) zd_X5_putSigns_0.2.2.1.1 ?_
    refine rn_iload_n (q := 3) 3 rfl zd_X5_putSigns_0.2.2.1.2 ?_
    obtain ⟨hc2, h⟩ := zck_e h
    refine rn_iald (zw_5_2 hW k_a0) hc2 zd_X5_putSigns_0.2.2.2.1 ?_
    obtain ⟨r3, h4, h⟩ := zbd_e h
    refine rn_callSi (As := [.int (M (R a0 2) (ztn x3))]) (rest := []) zl_X5_143 zm_X5_bond ⟨by decide, by decide⟩ rfl rfl (Nat.le_of_ble_eq_true rfl) zd_X5_putSigns_0.2.2.2.2 (ok_X5_bond hW h4) ?_
    refine rn_iload_n (q := 2) 2 rfl zd_X5_putSigns_1.1.1.1 ?_
    rcases zif_e h with ⟨hc5, h⟩ | ⟨hc5, h⟩
    · refine rn_icmp_lt_t (tgt := 54) hc5 zd_X5_putSigns_1.1.1.2.1 rfl ?_
      cases h
      exact rn_sub (ls' := []) [] rfl hk
    · refine rn_icmp_lt_f (tgt := 54) hc5 zd_X5_putSigns_1.1.1.2.1 rfl ?_
      refine rn_aload_n (q := 1) 1 rfl zd_X5_putSigns_1.1.1.2.2 ?_
      refine rn_aload_n (q := 0) 0 rfl zd_X5_putSigns_1.1.2.1.1 ?_
      refine rn_getR zf_X5_22 (Or.inr ⟨_, rfl⟩) k_a0 (zx_5_2 hW k_a0) zd_X5_putSigns_1.1.2.1.2 ?_
      refine rn_iload_n (q := 3) 3 rfl zd_X5_putSigns_1.1.2.2.1 ?_
      obtain ⟨hc6, h⟩ := zck_e h
      refine rn_iald (zw_5_2 hW k_a0) hc6 zd_X5_putSigns_1.1.2.2.2 ?_
      refine rn_iconst (v := 0) zd_X5_putSigns_1.2.1.1.1 rfl ?_
      obtain ⟨M7, h8, h⟩ := zbd_e h
      refine rn_callVv (As := [.int (M (R a0 2) (ztn x3)), .int (0 : Int32)]) (rest := []) zl_X5_121 zm_X3_add ⟨by decide, by decide⟩ (ci := 3) rfl rfl (by decide) k_a1 rfl rfl (Nat.le_of_ble_eq_true rfl) zd_X5_putSigns_1.2.1.1.2 (ok_X3_add hW k_a1 h8) ?_
      refine rn_aload_n (q := 0) 0 rfl zd_X5_putSigns_1.2.1.2.1 ?_
      refine rn_iload_n (q := 3) 3 rfl zd_X5_putSigns_1.2.1.2.2 ?_
      obtain ⟨M9, hM9, h⟩ := zlt_e h
      refine rn_putI hM9 zf_X5_130 k_a0 zd_X5_putSigns_1.2.2.1.1 ?_
      refine rn_iinc (v := (x3 + (-1))) (ls' := [(3, .int (x3 + (-1))), (0, .ref a0), (1, .ref a1), (2, .int x2)]) 3 rfl (congrArg (fun z => x3 + z) (show Int32.ofInt (-1) = -1 by decide)) (by decide) rfl zd_X5_putSigns_1.2.2.1.2 ?_
      refine rn_goto (tgt := 15) zd_X5_putSigns_1.2.2.2.1 rfl ?_
      cases h
      exact rn_sub (ls' := [(0, .ref a0), (1, .ref a1), (2, .int x2), (3, .int (x3 + (-1)))]) [1, 2, 3, 0] rfl hk
def f_X5_putSigns (R : zR) (M : zM) (a0 : Nat) (a1 : Nat) (x2 : Int32) : Option (zM) :=
  zbd (zloop zN (fun v => b_X5_putSigns_15 R v.2 a0 a1 x2 v.1) (((if (21 : Int32) < (M a0 4) then (21 : Int32) else (M a0 4)) - (1 : Int32)), M)) fun e10 =>
  some e10
set_option maxRecDepth 4000 in
theorem ok_X5_putSigns {G : zG} {K : zK} {R : zR} {M : zM} {L : zL} (hW : zWT R K) {a0 : Nat} {a1 : Nat} {x2 : Int32} (k_a0 : K[a0]? = some (5, 10)) (k_a1 : K[a1]? = some (3, 5)) {M' : zM} (h : f_X5_putSigns R M a0 a1 x2 = some M') : Rm G mt_X5_putSigns [.ref a0, .ref a1, .int x2] (M, L, R, K) none (M', L, R, K) := by
  refine rm_rn rfl rfl (Nat.le_of_ble_eq_true rfl) ?_
  show Rn G mt_X5_putSigns 0 [(0, .ref a0), (1, .ref a1), (2, .int x2)] [] (M, L, R, K) none (M', L, R, K)
  unfold f_X5_putSigns at h
  refine rn_aload_n (q := 0) 0 rfl zd_X5_putSigns_0.1.1.1.1 ?_
  refine rn_getI zf_X5_130 (Or.inl rfl) k_a0 zd_X5_putSigns_0.1.1.1.2 ?_
  refine rn_aload_n (q := 0) 0 rfl zd_X5_putSigns_0.1.1.2.1 ?_
  refine rn_getR zf_X5_22 (Or.inr ⟨_, rfl⟩) k_a0 (zx_5_2 hW k_a0) zd_X5_putSigns_0.1.1.2.2 ?_
  refine rn_alen (v := 21) (zw_5_2 hW k_a0) (Or.inl rfl) rfl zd_X5_putSigns_0.1.2.1.1 ?_
  refine rn_min zb_X5_155 zms_min zmi zmc_min ⟨by decide, by decide⟩ (Nat.le_of_ble_eq_true rfl) zd_X5_putSigns_0.1.2.1.2 ?_
  refine rn_iconst (v := 1) zd_X5_putSigns_0.1.2.2.1 rfl ?_
  refine rn_isub zd_X5_putSigns_0.1.2.2.2 ?_
  refine rn_istore_n (q := 3) (ls' := [(3, .int ((if (21 : Int32) < (M a0 4) then (21 : Int32) else (M a0 4)) - (1 : Int32))), (0, .ref a0), (1, .ref a1), (2, .int x2)]) (by decide) rfl zd_X5_putSigns_0.2.1.1.1 ?_
  obtain ⟨e10, he10, h⟩ := zbd_e h
  refine rn_sub (ls' := [(0, .ref a0), (1, .ref a1), (2, .int x2), (3, .int ((if (21 : Int32) < (M a0 4) then (21 : Int32) else (M a0 4)) - (1 : Int32)))]) [1, 2, 3, 0] rfl (zloop_ok (P := P_X5_putSigns_15 G K R L a0 a1 x2 none (M', L, R, K)) (Q := Q_X5_putSigns_15 G K R L a0 a1 x2 none (M', L, R, K)) (fun v x hx hq => ok_b_X5_putSigns_15 hW k_a0 k_a1 hx hq) _ _ _ he10 ?_)
  show Rn G mt_X5_putSigns 54 [] [] (e10, L, R, K) none (M', L, R, K)
  cases h
  exact rn_vret zd_X5_putSigns_1.2.2.2.2 rfl
def j_X5_readClose_23 (R : zR) (M : zM) (a0 : Nat) : Option (zM) :=
  zlt (zup M a0 5 ((M a0 5) - (1 : Int32))) fun M4 =>
  zbd2 (f_X5_take R M4 a0 (41 : Int32)) fun r5 M6 =>
  some M6
set_option maxRecDepth 4000 in
theorem ok_j_X5_readClose_23 {G : zG} {K : zK} {R : zR} {M : zM} {L : zL} (hW : zWT R K) {a0 : Nat} (k_a0 : K[a0]? = some (5, 10)) {M' : zM} (h : j_X5_readClose_23 R M a0 = some M') : Rn G mt_X5_readClose 23 [(0, .ref a0)] [] (M, L, R, K) none (M', L, R, K) := by
  unfold j_X5_readClose_23 at h
  refine rn_aload_n (q := 0) 0 rfl zd_X5_readClose_0.2.2.1.2 ?_
  refine rn_dup zd_X5_readClose_0.2.2.2.1 rfl ?_
  refine rn_getI zf_X5_133 (Or.inl rfl) k_a0 zd_X5_readClose_0.2.2.2.2 ?_
  refine rn_iconst (v := 1) zd_X5_readClose_1.1.1.1 rfl ?_
  refine rn_isub zd_X5_readClose_1.1.1.2 ?_
  obtain ⟨M4, hM4, h⟩ := zlt_e h
  refine rn_putI hM4 zf_X5_133 k_a0 zd_X5_readClose_1.1.2.1 ?_
  refine rn_aload_n (q := 0) 0 rfl zd_X5_readClose_1.1.2.2 ?_
  refine rn_bipush (v := 41) zd_X5_readClose_1.2.1.1 rfl ?_
  obtain ⟨r5, M6, h7, h⟩ := zbd2_e h
  refine rn_callVi (As := [.int (41 : Int32)]) (rest := []) zl_X5_59 zm_X5_take ⟨by decide, by decide⟩ (ci := 5) rfl rfl (by decide) k_a0 rfl rfl (Nat.le_of_ble_eq_true rfl) zd_X5_readClose_1.2.1.2 (ok_X5_take hW k_a0 h7) ?_
  refine rn_pop zd_X5_readClose_1.2.2.1 rfl ?_
  cases h
  exact rn_vret zd_X5_readClose_1.2.2.2 rfl
def f_X5_readClose (R : zR) (M : zM) (a0 : Nat) (a1 : Nat) : Option (zM) :=
  zbd (f_X5_putSigns R M a0 a1 (1 : Int32)) fun M1 =>
  if (M1 a0 4) ≤ 0 then (
    j_X5_readClose_23 R M1 a0
  ) else (
    zlt (zup M1 a0 4 ((M1 a0 4) - (1 : Int32))) fun M8 =>
    j_X5_readClose_23 R M8 a0
  )
set_option maxRecDepth 4000 in
theorem ok_X5_readClose {G : zG} {K : zK} {R : zR} {M : zM} {L : zL} (hW : zWT R K) {a0 : Nat} {a1 : Nat} (k_a0 : K[a0]? = some (5, 10)) (k_a1 : K[a1]? = some (3, 5)) {M' : zM} (h : f_X5_readClose R M a0 a1 = some M') : Rm G mt_X5_readClose [.ref a0, .ref a1] (M, L, R, K) none (M', L, R, K) := by
  refine rm_rn rfl rfl (Nat.le_of_ble_eq_true rfl) ?_
  show Rn G mt_X5_readClose 0 [(0, .ref a0), (1, .ref a1)] [] (M, L, R, K) none (M', L, R, K)
  unfold f_X5_readClose at h
  refine rn_aload_n (q := 0) 0 rfl zd_X5_readClose_0.1.1.1.1 ?_
  refine rn_aload_n (q := 1) 1 rfl zd_X5_readClose_0.1.1.1.2 ?_
  refine rn_iconst (v := 1) zd_X5_readClose_0.1.1.2.1 rfl ?_
  obtain ⟨M1, h2, h⟩ := zbd_e h
  refine rn_callVv (As := [.ref a1, .int (1 : Int32)]) (rest := []) zl_X5_149 zm_X5_putSigns ⟨by decide, by decide⟩ (ci := 5) rfl rfl (by decide) k_a0 rfl rfl (Nat.le_of_ble_eq_true rfl) zd_X5_readClose_0.1.1.2.2 (ok_X5_putSigns hW k_a0 k_a1 h2) ?_
  refine rn_aload_n (q := 0) 0 rfl zd_X5_readClose_0.1.2.1.1 ?_
  refine rn_getI zf_X5_130 (Or.inl rfl) k_a0 zd_X5_readClose_0.1.2.1.2 ?_
  rcases zif_e h with ⟨hc3, h⟩ | ⟨hc3, h⟩
  · refine rn_if_le_t (tgt := 23) hc3 zd_X5_readClose_0.1.2.2.1 rfl ?_
    exact rn_sub (ls' := [(0, .ref a0)]) [0] rfl (ok_j_X5_readClose_23 hW k_a0 h)
  · refine rn_if_le_f (tgt := 23) hc3 zd_X5_readClose_0.1.2.2.1 rfl ?_
    refine rn_aload_n (q := 0) 0 rfl zd_X5_readClose_0.1.2.2.2 ?_
    refine rn_dup zd_X5_readClose_0.2.1.1.1 rfl ?_
    refine rn_getI zf_X5_130 (Or.inl rfl) k_a0 zd_X5_readClose_0.2.1.1.2 ?_
    refine rn_iconst (v := 1) zd_X5_readClose_0.2.1.2.1 rfl ?_
    refine rn_isub zd_X5_readClose_0.2.1.2.2 ?_
    obtain ⟨M8, hM8, h⟩ := zlt_e h
    refine rn_putI hM8 zf_X5_130 k_a0 zd_X5_readClose_0.2.2.1.1 ?_
    exact rn_sub (ls' := [(0, .ref a0)]) [0] rfl (ok_j_X5_readClose_23 hW k_a0 h)
def f_X5_await (R : zR) (M : zM) (a0 : Nat) (x1 : Int32) : Option (zM) :=
  if (M a0 4) < 0 then (
    some M
  ) else (
    if (21 : Int32) ≤ (M a0 4) then (
      some M
    ) else (
      zlt (zup M a0 4 ((M a0 4) + (1 : Int32))) fun M3 =>
      zck (zin (M a0 4) 21) <|
      zlt (zup M3 (R a0 2) (ztn (M a0 4)) x1) fun M5 =>
      some M5
    )
  )
set_option maxRecDepth 4000 in
theorem ok_X5_await {G : zG} {K : zK} {R : zR} {M : zM} {L : zL} (hW : zWT R K) {a0 : Nat} {x1 : Int32} (k_a0 : K[a0]? = some (5, 10)) {M' : zM} (h : f_X5_await R M a0 x1 = some M') : Rm G mt_X5_await [.ref a0, .int x1] (M, L, R, K) none (M', L, R, K) := by
  refine rm_rn rfl rfl (Nat.le_of_ble_eq_true rfl) ?_
  show Rn G mt_X5_await 0 [(0, .ref a0), (1, .int x1)] [] (M, L, R, K) none (M', L, R, K)
  unfold f_X5_await at h
  refine rn_aload_n (q := 0) 0 rfl zd_X5_await_0.1.1.1.1 ?_
  refine rn_getI zf_X5_130 (Or.inl rfl) k_a0 zd_X5_await_0.1.1.1.2 ?_
  rcases zif_e h with ⟨hc1, h⟩ | ⟨hc1, h⟩
  · refine rn_if_lt_t (tgt := 36) hc1 zd_X5_await_0.1.1.2.1 rfl ?_
    cases h
    exact rn_vret zd_X5_await_1.2.2.2 rfl
  · refine rn_if_lt_f (tgt := 36) hc1 zd_X5_await_0.1.1.2.1 rfl ?_
    refine rn_aload_n (q := 0) 0 rfl zd_X5_await_0.1.1.2.2 ?_
    refine rn_getI zf_X5_130 (Or.inl rfl) k_a0 zd_X5_await_0.1.2.1.1 ?_
    refine rn_aload_n (q := 0) 0 rfl zd_X5_await_0.1.2.1.2 ?_
    refine rn_getR zf_X5_22 (Or.inr ⟨_, rfl⟩) k_a0 (zx_5_2 hW k_a0) zd_X5_await_0.1.2.2.1 ?_
    refine rn_alen (v := 21) (zw_5_2 hW k_a0) (Or.inl rfl) rfl zd_X5_await_0.1.2.2.2 ?_
    rcases zif_e h with ⟨hc2, h⟩ | ⟨hc2, h⟩
    · refine rn_icmp_ge_t (tgt := 36) hc2 zd_X5_await_0.2.1.1.1 rfl ?_
      cases h
      exact rn_vret zd_X5_await_1.2.2.2 rfl
    · refine rn_icmp_ge_f (tgt := 36) hc2 zd_X5_await_0.2.1.1.1 rfl ?_
      refine rn_aload_n (q := 0) 0 rfl zd_X5_await_0.2.1.1.2 ?_
      refine rn_getR zf_X5_22 (Or.inr ⟨_, rfl⟩) k_a0 (zx_5_2 hW k_a0) zd_X5_await_0.2.1.2.1 ?_
      refine rn_aload_n (q := 0) 0 rfl zd_X5_await_0.2.1.2.2 ?_
      refine rn_dup zd_X5_await_0.2.2.1.1 rfl ?_
      refine rn_getI zf_X5_130 (Or.inl rfl) k_a0 zd_X5_await_0.2.2.1.2 ?_
      refine rn_dup_x1 zd_X5_await_0.2.2.2.1 rfl rfl ?_
      refine rn_iconst (v := 1) zd_X5_await_0.2.2.2.2 rfl ?_
      refine rn_iadd zd_X5_await_1.1.1 ?_
      obtain ⟨M3, hM3, h⟩ := zlt_e h
      refine rn_putI hM3 zf_X5_130 k_a0 zd_X5_await_1.1.2 ?_
      refine rn_iload_n (q := 1) 1 rfl zd_X5_await_1.2.1 ?_
      obtain ⟨hc4, h⟩ := zck_e h
      obtain ⟨M5, hM5, h⟩ := zlt_e h
      refine rn_iast hM5 (zw_5_2 hW k_a0) hc4 zd_X5_await_1.2.2.1 ?_
      cases h
      exact rn_vret zd_X5_await_1.2.2.2 rfl
def f_X5_readSign (R : zR) (M : zM) (a0 : Nat) (a1 : Nat) (x2 : Int32) : Option (zM) :=
  zbd (f_X5_bond x2) fun r1 =>
  zbd (f_X5_putSigns R M a0 a1 r1) fun M3 =>
  zbd (f_X5_await R M3 a0 x2) fun M5 =>
  zbd2 (f_X5_take R M5 a0 x2) fun r7 M8 =>
  some M8
set_option maxRecDepth 4000 in
theorem ok_X5_readSign {G : zG} {K : zK} {R : zR} {M : zM} {L : zL} (hW : zWT R K) {a0 : Nat} {a1 : Nat} {x2 : Int32} (k_a0 : K[a0]? = some (5, 10)) (k_a1 : K[a1]? = some (3, 5)) {M' : zM} (h : f_X5_readSign R M a0 a1 x2 = some M') : Rm G mt_X5_readSign [.ref a0, .ref a1, .int x2] (M, L, R, K) none (M', L, R, K) := by
  refine rm_rn rfl rfl (Nat.le_of_ble_eq_true rfl) ?_
  show Rn G mt_X5_readSign 0 [(0, .ref a0), (1, .ref a1), (2, .int x2)] [] (M, L, R, K) none (M', L, R, K)
  unfold f_X5_readSign at h
  refine rn_aload_n (q := 0) 0 rfl zd_X5_readSign_0.1.1.1 ?_
  refine rn_aload_n (q := 1) 1 rfl zd_X5_readSign_0.1.1.2.1 ?_
  refine rn_iload_n (q := 2) 2 rfl zd_X5_readSign_0.1.1.2.2 ?_
  obtain ⟨r1, h2, h⟩ := zbd_e h
  refine rn_callSi (As := [.int x2]) (rest := [.ref a1, .ref a0]) zl_X5_143 zm_X5_bond ⟨by decide, by decide⟩ rfl rfl (Nat.le_of_ble_eq_true rfl) zd_X5_readSign_0.1.2.1 (ok_X5_bond hW h2) ?_
  obtain ⟨M3, h4, h⟩ := zbd_e h
  refine rn_callVv (As := [.ref a1, .int r1]) (rest := []) zl_X5_149 zm_X5_putSigns ⟨by decide, by decide⟩ (ci := 5) rfl rfl (by decide) k_a0 rfl rfl (Nat.le_of_ble_eq_true rfl) zd_X5_readSign_0.1.2.2.1 (ok_X5_putSigns hW k_a0 k_a1 h4) ?_
  refine rn_aload_n (q := 0) 0 rfl zd_X5_readSign_0.1.2.2.2 ?_
  refine rn_iload_n (q := 2) 2 rfl zd_X5_readSign_0.2.1.1 ?_
  obtain ⟨M5, h6, h⟩ := zbd_e h
  refine rn_callVv (As := [.int x2]) (rest := []) zl_X5_152 zm_X5_await ⟨by decide, by decide⟩ (ci := 5) rfl rfl (by decide) k_a0 rfl rfl (Nat.le_of_ble_eq_true rfl) zd_X5_readSign_0.2.1.2.1 (ok_X5_await hW k_a0 h6) ?_
  refine rn_aload_n (q := 0) 0 rfl zd_X5_readSign_0.2.1.2.2 ?_
  refine rn_iload_n (q := 2) 2 rfl zd_X5_readSign_0.2.2.1.1 ?_
  obtain ⟨r7, M8, h9, h⟩ := zbd2_e h
  refine rn_callVi (As := [.int x2]) (rest := []) zl_X5_59 zm_X5_take ⟨by decide, by decide⟩ (ci := 5) rfl rfl (by decide) k_a0 rfl rfl (Nat.le_of_ble_eq_true rfl) zd_X5_readSign_0.2.2.1.2 (ok_X5_take hW k_a0 h9) ?_
  refine rn_pop zd_X5_readSign_0.2.2.2.1 rfl ?_
  cases h
  exact rn_vret zd_X5_readSign_0.2.2.2.2 rfl
def j_X5_readUnit_80 (R : zR) (M : zM) (L : zL) (a0 : Nat) (a1 : Nat) : Option (zM) :=
  zbd (f_X9_valueOf R L (R a0 0) (M a0 3)) fun r3 =>
  zbd (f_X3_add R M a1 (1 : Int32) r3.toInt32) fun M5 =>
  zbd2 (f_X5_take R M5 a0 (3 : Int32)) fun r7 M8 =>
  some M8
set_option maxRecDepth 4000 in
theorem ok_j_X5_readUnit_80 {G : zG} {K : zK} {R : zR} {M : zM} {L : zL} (hW : zWT R K) {a0 : Nat} {a1 : Nat} (k_a0 : K[a0]? = some (5, 10)) (k_a1 : K[a1]? = some (3, 5)) {M' : zM} (h : j_X5_readUnit_80 R M L a0 a1 = some M') : Rn G mt_X5_readUnit 80 [(0, .ref a0), (1, .ref a1)] [] (M, L, R, K) none (M', L, R, K) := by
  unfold j_X5_readUnit_80 at h
  refine rn_aload_n (q := 1) 1 rfl zd_X5_readUnit_2.2.1.2.2 ?_
  refine rn_iconst (v := 1) zd_X5_readUnit_2.2.2.1.1 rfl ?_
  refine rn_aload_n (q := 0) 0 rfl zd_X5_readUnit_2.2.2.1.2 ?_
  refine rn_getR zf_X5_12 (Or.inl ⟨_, rfl⟩) k_a0 (zx_5_0 hW k_a0) zd_X5_readUnit_2.2.2.2.1 ?_
  refine rn_aload_n (q := 0) 0 rfl zd_X5_readUnit_2.2.2.2.2 ?_
  refine rn_getI zf_X5_39 (Or.inl rfl) k_a0 zd_X5_readUnit_3.1.1.1 ?_
  obtain ⟨r3, h4, h⟩ := zbd_e h
  refine rn_callVl (As := [.int (M a0 3)]) (rest := [.int (1 : Int32), .ref a1]) zl_X5_94 zm_X9_valueOf ⟨by decide, by decide⟩ (ci := 9) rfl rfl (by decide) (zw_5_0 hW k_a0) rfl rfl (Nat.le_of_ble_eq_true rfl) zd_X5_readUnit_3.1.1.2 (ok_X9_valueOf hW (zw_5_0 hW k_a0) h4) ?_
  refine rn_l2i zd_X5_readUnit_3.1.2.1 ?_
  obtain ⟨M5, h6, h⟩ := zbd_e h
  refine rn_callVv (As := [.int (1 : Int32), .int r3.toInt32]) (rest := []) zl_X5_121 zm_X3_add ⟨by decide, by decide⟩ (ci := 3) rfl rfl (by decide) k_a1 rfl rfl (Nat.le_of_ble_eq_true rfl) zd_X5_readUnit_3.1.2.2 (ok_X3_add hW k_a1 h6) ?_
  refine rn_aload_n (q := 0) 0 rfl zd_X5_readUnit_3.2.1.1 ?_
  refine rn_iconst (v := 3) zd_X5_readUnit_3.2.1.2 rfl ?_
  obtain ⟨r7, M8, h9, h⟩ := zbd2_e h
  refine rn_callVi (As := [.int (3 : Int32)]) (rest := []) zl_X5_59 zm_X5_take ⟨by decide, by decide⟩ (ci := 5) rfl rfl (by decide) k_a0 rfl rfl (Nat.le_of_ble_eq_true rfl) zd_X5_readUnit_3.2.2.1 (ok_X5_take hW k_a0 h9) ?_
  refine rn_pop zd_X5_readUnit_3.2.2.2.1 rfl ?_
  cases h
  exact rn_vret zd_X5_readUnit_3.2.2.2.2 rfl
def j_X5_readUnit_24 (R : zR) (M : zM) (L : zL) (a0 : Nat) : Option (zM) :=
  zlt (zup M a0 5 ((M a0 5) + (1 : Int32))) fun M17 =>
  zbd (f_X5_await R M17 a0 (40 : Int32)) fun M18 =>
  zbd2 (f_X5_take R M18 a0 (40 : Int32)) fun r20 M21 =>
  some M21
set_option maxRecDepth 4000 in
theorem ok_j_X5_readUnit_24 {G : zG} {K : zK} {R : zR} {M : zM} {L : zL} (hW : zWT R K) {a0 : Nat} (k_a0 : K[a0]? = some (5, 10)) {M' : zM} (h : j_X5_readUnit_24 R M L a0 = some M') : Rn G mt_X5_readUnit 24 [(0, .ref a0)] [] (M, L, R, K) none (M', L, R, K) := by
  unfold j_X5_readUnit_24 at h
  refine rn_aload_n (q := 0) 0 rfl zd_X5_readUnit_0.2.2.1.1 ?_
  refine rn_dup zd_X5_readUnit_0.2.2.1.2 rfl ?_
  refine rn_getI zf_X5_133 (Or.inl rfl) k_a0 zd_X5_readUnit_0.2.2.2.1 ?_
  refine rn_iconst (v := 1) zd_X5_readUnit_0.2.2.2.2 rfl ?_
  refine rn_iadd zd_X5_readUnit_1.1.1.1.1 ?_
  obtain ⟨M17, hM17, h⟩ := zlt_e h
  refine rn_putI hM17 zf_X5_133 k_a0 zd_X5_readUnit_1.1.1.1.2 ?_
  refine rn_aload_n (q := 0) 0 rfl zd_X5_readUnit_1.1.1.2.1 ?_
  refine rn_bipush (v := 40) zd_X5_readUnit_1.1.1.2.2 rfl ?_
  obtain ⟨M18, h19, h⟩ := zbd_e h
  refine rn_callVv (As := [.int (40 : Int32)]) (rest := []) zl_X5_152 zm_X5_await ⟨by decide, by decide⟩ (ci := 5) rfl rfl (by decide) k_a0 rfl rfl (Nat.le_of_ble_eq_true rfl) zd_X5_readUnit_1.1.2.1.1 (ok_X5_await hW k_a0 h19) ?_
  refine rn_aload_n (q := 0) 0 rfl zd_X5_readUnit_1.1.2.1.2 ?_
  refine rn_bipush (v := 40) zd_X5_readUnit_1.1.2.2.1 rfl ?_
  obtain ⟨r20, M21, h22, h⟩ := zbd2_e h
  refine rn_callVi (As := [.int (40 : Int32)]) (rest := []) zl_X5_59 zm_X5_take ⟨by decide, by decide⟩ (ci := 5) rfl rfl (by decide) k_a0 rfl rfl (Nat.le_of_ble_eq_true rfl) zd_X5_readUnit_1.1.2.2.2 (ok_X5_take hW k_a0 h22) ?_
  refine rn_pop zd_X5_readUnit_1.2.1.1.1 rfl ?_
  refine rn_goto (tgt := 103) zd_X5_readUnit_1.2.1.1.2 rfl ?_
  cases h
  exact rn_vret zd_X5_readUnit_3.2.2.2.2 rfl
def f_X5_readUnit (R : zR) (M : zM) (L : zL) (a0 : Nat) (a1 : Nat) (x2 : Int32) : Option (zM) :=
  if x2 = (40 : Int32) then (
    if (M a0 5) < (6 : Int32) then (
      j_X5_readUnit_24 R M L a0
    ) else (
      zbd (f_X5_failAt R M a0 (M a0 3) (2 : Int32)) fun M23 =>
      j_X5_readUnit_24 R M23 L a0
    )
  ) else (
    if x2 < (113 : Int32) then (
      j_X5_readUnit_80 R M L a0 a1
    ) else (
      if (119 : Int32) < x2 then (
        j_X5_readUnit_80 R M L a0 a1
      ) else (
        zbd (f_X3_add R M a1 (2 : Int32) (x2 - (113 : Int32))) fun M11 =>
        zbd2 (f_X5_take R M11 a0 x2) fun r13 M14 =>
        some M14
      )
    )
  )
set_option maxRecDepth 4000 in
theorem ok_X5_readUnit {G : zG} {K : zK} {R : zR} {M : zM} {L : zL} (hW : zWT R K) {a0 : Nat} {a1 : Nat} {x2 : Int32} (k_a0 : K[a0]? = some (5, 10)) (k_a1 : K[a1]? = some (3, 5)) {M' : zM} (h : f_X5_readUnit R M L a0 a1 x2 = some M') : Rm G mt_X5_readUnit [.ref a0, .ref a1, .int x2] (M, L, R, K) none (M', L, R, K) := by
  refine rm_rn rfl rfl (Nat.le_of_ble_eq_true rfl) ?_
  show Rn G mt_X5_readUnit 0 [(0, .ref a0), (1, .ref a1), (2, .int x2)] [] (M, L, R, K) none (M', L, R, K)
  unfold f_X5_readUnit at h
  refine rn_iload_n (q := 2) 2 rfl zd_X5_readUnit_0.1.1.1.1 ?_
  refine rn_bipush (v := 40) zd_X5_readUnit_0.1.1.1.2 rfl ?_
  rcases zif_e h with ⟨hc1, h⟩ | ⟨hc1, h⟩
  · refine rn_icmp_ne_f (tgt := 50) hc1 zd_X5_readUnit_0.1.1.2.1 rfl ?_
    refine rn_aload_n (q := 0) 0 rfl zd_X5_readUnit_0.1.1.2.2 ?_
    refine rn_getI zf_X5_133 (Or.inl rfl) k_a0 zd_X5_readUnit_0.1.2.1.1 ?_
    refine rn_bipush (v := 6) zd_X5_readUnit_0.1.2.1.2 rfl ?_
    rcases zif_e h with ⟨hc16, h⟩ | ⟨hc16, h⟩
    · refine rn_icmp_lt_t (tgt := 24) hc16 zd_X5_readUnit_0.1.2.2.1 rfl ?_
      exact rn_sub (ls' := [(0, .ref a0)]) [0] rfl (ok_j_X5_readUnit_24 hW k_a0 h)
    · refine rn_icmp_lt_f (tgt := 24) hc16 zd_X5_readUnit_0.1.2.2.1 rfl ?_
      refine rn_aload_n (q := 0) 0 rfl zd_X5_readUnit_0.1.2.2.2 ?_
      refine rn_aload_n (q := 0) 0 rfl zd_X5_readUnit_0.2.1.1.1 ?_
      refine rn_getI zf_X5_39 (Or.inl rfl) k_a0 zd_X5_readUnit_0.2.1.1.2 ?_
      refine rn_iconst (v := 2) zd_X5_readUnit_0.2.1.2.1 rfl ?_
      obtain ⟨M23, h24, h⟩ := zbd_e h
      refine rn_callVv (As := [.int (M a0 3), .int (2 : Int32)]) (rest := []) zl_X5_87 zm_X5_failAt ⟨by decide, by decide⟩ (ci := 5) rfl rfl (by decide) k_a0 rfl rfl (Nat.le_of_ble_eq_true rfl) zd_X5_readUnit_0.2.1.2.2 (ok_X5_failAt hW k_a0 h24) ?_
      exact rn_sub (ls' := [(0, .ref a0)]) [0] rfl (ok_j_X5_readUnit_24 hW k_a0 h)
  · refine rn_icmp_ne_t (tgt := 50) hc1 zd_X5_readUnit_0.1.1.2.1 rfl ?_
    refine rn_iload_n (q := 2) 2 rfl zd_X5_readUnit_1.2.1.2.1 ?_
    refine rn_bipush (v := 113) zd_X5_readUnit_1.2.1.2.2 rfl ?_
    rcases zif_e h with ⟨hc2, h⟩ | ⟨hc2, h⟩
    · refine rn_icmp_lt_t (tgt := 80) hc2 zd_X5_readUnit_1.2.2.1.1 rfl ?_
      exact rn_sub (ls' := [(0, .ref a0), (1, .ref a1)]) [0, 1] rfl (ok_j_X5_readUnit_80 hW k_a0 k_a1 h)
    · refine rn_icmp_lt_f (tgt := 80) hc2 zd_X5_readUnit_1.2.2.1.1 rfl ?_
      refine rn_iload_n (q := 2) 2 rfl zd_X5_readUnit_1.2.2.1.2 ?_
      refine rn_bipush (v := 119) zd_X5_readUnit_1.2.2.2.1 rfl ?_
      rcases zif_e h with ⟨hc10, h⟩ | ⟨hc10, h⟩
      · refine rn_icmp_gt_t (tgt := 80) hc10 zd_X5_readUnit_1.2.2.2.2 rfl ?_
        exact rn_sub (ls' := [(0, .ref a0), (1, .ref a1)]) [0, 1] rfl (ok_j_X5_readUnit_80 hW k_a0 k_a1 h)
      · refine rn_icmp_gt_f (tgt := 80) hc10 zd_X5_readUnit_1.2.2.2.2 rfl ?_
        refine rn_aload_n (q := 1) 1 rfl zd_X5_readUnit_2.1.1.1.1 ?_
        refine rn_iconst (v := 2) zd_X5_readUnit_2.1.1.1.2 rfl ?_
        refine rn_iload_n (q := 2) 2 rfl zd_X5_readUnit_2.1.1.2.1 ?_
        refine rn_bipush (v := 113) zd_X5_readUnit_2.1.1.2.2 rfl ?_
        refine rn_isub zd_X5_readUnit_2.1.2.1.1 ?_
        obtain ⟨M11, h12, h⟩ := zbd_e h
        refine rn_callVv (As := [.int (2 : Int32), .int (x2 - (113 : Int32))]) (rest := []) zl_X5_121 zm_X3_add ⟨by decide, by decide⟩ (ci := 3) rfl rfl (by decide) k_a1 rfl rfl (Nat.le_of_ble_eq_true rfl) zd_X5_readUnit_2.1.2.1.2 (ok_X3_add hW k_a1 h12) ?_
        refine rn_aload_n (q := 0) 0 rfl zd_X5_readUnit_2.1.2.2.1 ?_
        refine rn_iload_n (q := 2) 2 rfl zd_X5_readUnit_2.1.2.2.2 ?_
        obtain ⟨r13, M14, h15, h⟩ := zbd2_e h
        refine rn_callVi (As := [.int x2]) (rest := []) zl_X5_59 zm_X5_take ⟨by decide, by decide⟩ (ci := 5) rfl rfl (by decide) k_a0 rfl rfl (Nat.le_of_ble_eq_true rfl) zd_X5_readUnit_2.2.1.1.1 (ok_X5_take hW k_a0 h15) ?_
        refine rn_pop zd_X5_readUnit_2.2.1.1.2 rfl ?_
        refine rn_goto (tgt := 103) zd_X5_readUnit_2.2.1.2.1 rfl ?_
        cases h
        exact rn_vret zd_X5_readUnit_3.2.2.2.2 rfl
abbrev P_X5_readSum_14 (G : zG) (K : zK) (R : zR) (L : zL) (a0 : Nat) (a1 : Nat) (r : Option Value) (S' : zS) (v : Int32 × Int32 × zM) : Prop := Rn G mt_X5_readSum 14 [(0, .ref a0), (1, .ref a1), (2, .int v.1), (3, .int v.2.1)] [] (v.2.2, L, R, K) r S'
abbrev Q_X5_readSum_14 (G : zG) (K : zK) (R : zR) (L : zL) (a0 : Nat) (a1 : Nat) (r : Option Value) (S' : zS) : (zM) → Prop := (fun e => Rn G mt_X5_readSum 113 [(0, .ref a0), (1, .ref a1)] [] (e, L, R, K) r S')
def j_X5_readSum_90 (R : zR) (M : zM) (L : zL) (a0 : Nat) (a1 : Nat) (x3 : Int32) (x4 : Int32) : Option ((Int32 × Int32 × zM) ⊕ ((zM))) :=
  zbd (f_X5_bond x4) fun r9 =>
  if r9 ≤ 0 then (
    some (.inr M)
  ) else (
    zbd (f_X5_readSign R M a0 a1 x4) fun M12 =>
    some (.inl ((1 : Int32), (x3 + 1), M12))
  )
set_option maxRecDepth 4000 in
theorem ok_j_X5_readSum_90 {G : zG} {K : zK} {R : zR} {M : zM} {L : zL} (hW : zWT R K) {a0 : Nat} {a1 : Nat} {x3 : Int32} {x4 : Int32} (k_a0 : K[a0]? = some (5, 10)) (k_a1 : K[a1]? = some (3, 5)) {r : Option Value} {S' : zS} {x : (Int32 × Int32 × zM) ⊕ ((zM))} (h : j_X5_readSum_90 R M L a0 a1 x3 x4 = some x) (hk : Sum.elim (P_X5_readSum_14 G K R L a0 a1 r S') (Q_X5_readSum_14 G K R L a0 a1 r S') x) : Rn G mt_X5_readSum 90 [(0, .ref a0), (1, .ref a1), (3, .int x3), (4, .int x4)] [] (M, L, R, K) r S' := by
  unfold j_X5_readSum_90 at h
  refine rn_iload 3 rfl zd_X5_readSum_2.2.2.2.1 ?_
  obtain ⟨r9, h10, h⟩ := zbd_e h
  refine rn_callSi (As := [.int x4]) (rest := []) zl_X5_143 zm_X5_bond ⟨by decide, by decide⟩ rfl rfl (Nat.le_of_ble_eq_true rfl) zd_X5_readSum_2.2.2.2.2 (ok_X5_bond hW h10) ?_
  rcases zif_e h with ⟨hc11, h⟩ | ⟨hc11, h⟩
  · refine rn_if_le_t (tgt := 113) hc11 zd_X5_readSum_3.1.1.1.1 rfl ?_
    cases h
    exact rn_sub (ls' := [(0, .ref a0), (1, .ref a1)]) [0, 1] rfl hk
  · refine rn_if_le_f (tgt := 113) hc11 zd_X5_readSum_3.1.1.1.1 rfl ?_
    refine rn_aload_n (q := 0) 0 rfl zd_X5_readSum_3.1.1.1.2 ?_
    refine rn_aload_n (q := 1) 1 rfl zd_X5_readSum_3.1.1.2.1 ?_
    refine rn_iload 3 rfl zd_X5_readSum_3.1.1.2.2 ?_
    obtain ⟨M12, h13, h⟩ := zbd_e h
    refine rn_callVv (As := [.ref a1, .int x4]) (rest := []) zl_X5_146 zm_X5_readSign ⟨by decide, by decide⟩ (ci := 5) rfl rfl (by decide) k_a0 rfl rfl (Nat.le_of_ble_eq_true rfl) zd_X5_readSum_3.1.2.1.1 (ok_X5_readSign hW k_a0 k_a1 h13) ?_
    refine rn_iconst (v := 1) zd_X5_readSum_3.1.2.1.2 rfl ?_
    refine rn_istore_n (q := 2) (ls' := [(2, .int (1 : Int32)), (0, .ref a0), (1, .ref a1), (3, .int x3), (4, .int x4)]) (by decide) rfl zd_X5_readSum_3.1.2.2.1 ?_
    refine rn_iinc (v := (x3 + 1)) (ls' := [(3, .int (x3 + 1)), (2, .int (1 : Int32)), (0, .ref a0), (1, .ref a1), (4, .int x4)]) 3 rfl rfl (by decide) rfl zd_X5_readSum_3.1.2.2.2 ?_
    refine rn_goto (tgt := 14) zd_X5_readSum_3.2.1.1.1 rfl ?_
    cases h
    exact rn_sub (ls' := [(0, .ref a0), (1, .ref a1), (2, .int (1 : Int32)), (3, .int (x3 + 1))]) [2, 3, 1, 0] rfl hk
def j_X5_readSum_57 (R : zR) (M : zM) (L : zL) (a0 : Nat) (a1 : Nat) (x3 : Int32) (x4 : Int32) (s0 : Int32) : Option ((Int32 × Int32 × zM) ⊕ ((zM))) :=
  zbd (f_X5_readUnit R M L a0 a1 x4) fun M18 =>
  some (.inl (s0, (x3 + 1), M18))
set_option maxRecDepth 4000 in
theorem ok_j_X5_readSum_57 {G : zG} {K : zK} {R : zR} {M : zM} {L : zL} (hW : zWT R K) {a0 : Nat} {a1 : Nat} {x3 : Int32} {x4 : Int32} {s0 : Int32} (k_a0 : K[a0]? = some (5, 10)) (k_a1 : K[a1]? = some (3, 5)) {r : Option Value} {S' : zS} {x : (Int32 × Int32 × zM) ⊕ ((zM))} (h : j_X5_readSum_57 R M L a0 a1 x3 x4 s0 = some x) (hk : Sum.elim (P_X5_readSum_14 G K R L a0 a1 r S') (Q_X5_readSum_14 G K R L a0 a1 r S') x) : Rn G mt_X5_readSum 57 [(0, .ref a0), (1, .ref a1), (3, .int x3), (4, .int x4)] [.int s0] (M, L, R, K) r S' := by
  unfold j_X5_readSum_57 at h
  refine rn_istore_n (q := 2) (ls' := [(2, .int s0), (0, .ref a0), (1, .ref a1), (3, .int x3), (4, .int x4)]) (by decide) rfl zd_X5_readSum_1.2.2.2.1 ?_
  refine rn_aload_n (q := 0) 1 rfl zd_X5_readSum_1.2.2.2.2 ?_
  refine rn_aload_n (q := 1) 2 rfl zd_X5_readSum_2.1.1.1.1 ?_
  refine rn_iload 4 rfl zd_X5_readSum_2.1.1.1.2 ?_
  obtain ⟨M18, h19, h⟩ := zbd_e h
  refine rn_callVv (As := [.ref a1, .int x4]) (rest := []) zl_X5_136 zm_X5_readUnit ⟨by decide, by decide⟩ (ci := 5) rfl rfl (by decide) k_a0 rfl rfl (Nat.le_of_ble_eq_true rfl) zd_X5_readSum_2.1.1.2.1 (ok_X5_readUnit hW k_a0 k_a1 h19) ?_
  refine rn_goto (tgt := 107) zd_X5_readSum_2.1.1.2.2 rfl ?_
  refine rn_iinc (v := (x3 + 1)) (ls' := [(3, .int (x3 + 1)), (2, .int s0), (0, .ref a0), (1, .ref a1), (4, .int x4)]) 3 rfl rfl (by decide) rfl zd_X5_readSum_3.1.2.2.2 ?_
  refine rn_goto (tgt := 14) zd_X5_readSum_3.2.1.1.1 rfl ?_
  cases h
  exact rn_sub (ls' := [(0, .ref a0), (1, .ref a1), (2, .int s0), (3, .int (x3 + 1))]) [2, 3, 1, 0] rfl hk
def b_X5_readSum_14 (R : zR) (M : zM) (L : zL) (a0 : Nat) (a1 : Nat) (x2 : Int32) (x3 : Int32) : Option ((Int32 × Int32 × zM) ⊕ ((zM))) :=
  if (400 : Int32) < x3 then (
    some (.inr M)
  ) else (
    if (M a0 6) = 0 then (
      zbd (f_X9_kindAt R M (R a0 0) (M a0 3)) fun r5 =>
      if x2 = 0 then (
        if r5 = (41 : Int32) then (
          if (M a0 5) ≤ 0 then (
            j_X5_readSum_90 R M L a0 a1 x3 r5
          ) else (
            zbd (f_X5_readClose R M a0 a1) fun M15 =>
            some (.inl (x2, (x3 + 1), M15))
          )
        ) else (
          j_X5_readSum_90 R M L a0 a1 x3 r5
        )
      ) else (
        if r5 = (40 : Int32) then (
          j_X5_readSum_57 R M L a0 a1 x3 r5 (1 : Int32)
        ) else (
          j_X5_readSum_57 R M L a0 a1 x3 r5 (0 : Int32)
        )
      )
    ) else (
      some (.inr M)
    )
  )
set_option maxRecDepth 4000 in
theorem ok_b_X5_readSum_14 {G : zG} {K : zK} {R : zR} {M : zM} {L : zL} (hW : zWT R K) {a0 : Nat} {a1 : Nat} {x2 : Int32} {x3 : Int32} (k_a0 : K[a0]? = some (5, 10)) (k_a1 : K[a1]? = some (3, 5)) {r : Option Value} {S' : zS} {x : (Int32 × Int32 × zM) ⊕ ((zM))} (h : b_X5_readSum_14 R M L a0 a1 x2 x3 = some x) (hk : Sum.elim (P_X5_readSum_14 G K R L a0 a1 r S') (Q_X5_readSum_14 G K R L a0 a1 r S') x) : P_X5_readSum_14 G K R L a0 a1 r S' (x2, x3, M) := by
  show Rn G mt_X5_readSum 14 [(0, .ref a0), (1, .ref a1), (2, .int x2), (3, .int x3)] [] (M, L, R, K) r S'
  unfold b_X5_readSum_14 at h
  refine rn_iload_n (q := 3) 3 rfl zd_X5_readSum_0.2.1.2.1 ?_
  refine rn_sipush (v := 400) zd_X5_readSum_0.2.1.2.2 rfl ?_
  rcases zif_e h with ⟨hc3, h⟩ | ⟨hc3, h⟩
  · refine rn_icmp_gt_t (tgt := 113) hc3 zd_X5_readSum_0.2.2.1.1 rfl ?_
    cases h
    exact rn_sub (ls' := [(0, .ref a0), (1, .ref a1)]) [0, 1] rfl hk
  · refine rn_icmp_gt_f (tgt := 113) hc3 zd_X5_readSum_0.2.2.1.1 rfl ?_
    refine rn_aload_n (q := 0) 0 rfl zd_X5_readSum_0.2.2.1.2 ?_
    refine rn_getI zf_X5_42 (Or.inl rfl) k_a0 zd_X5_readSum_0.2.2.2.1 ?_
    rcases zif_e h with ⟨hc4, h⟩ | ⟨hc4, h⟩
    · refine rn_if_ne_f (tgt := 113) hc4 zd_X5_readSum_0.2.2.2.2 rfl ?_
      refine rn_aload_n (q := 0) 0 rfl zd_X5_readSum_1.1.1.1.1 ?_
      refine rn_getR zf_X5_12 (Or.inl ⟨_, rfl⟩) k_a0 (zx_5_0 hW k_a0) zd_X5_readSum_1.1.1.1.2 ?_
      refine rn_aload_n (q := 0) 0 rfl zd_X5_readSum_1.1.1.2.1 ?_
      refine rn_getI zf_X5_39 (Or.inl rfl) k_a0 zd_X5_readSum_1.1.1.2.2 ?_
      obtain ⟨r5, h6, h⟩ := zbd_e h
      refine rn_callVi (As := [.int (M a0 3)]) (rest := []) zl_X5_51 zm_X9_kindAt ⟨by decide, by decide⟩ (ci := 9) rfl rfl (by decide) (zw_5_0 hW k_a0) rfl rfl (Nat.le_of_ble_eq_true rfl) zd_X5_readSum_1.1.2.1.1 (ok_X9_kindAt hW (zw_5_0 hW k_a0) h6) ?_
      refine rn_istore (ls' := [(4, .int r5), (0, .ref a0), (1, .ref a1), (2, .int x2), (3, .int x3)]) (by decide) rfl zd_X5_readSum_1.1.2.1.2 ?_
      refine rn_iload_n (q := 2) 3 rfl zd_X5_readSum_1.1.2.2.1 ?_
      rcases zif_e h with ⟨hc7, h⟩ | ⟨hc7, h⟩
      · refine rn_if_eq_t (tgt := 68) hc7 zd_X5_readSum_1.1.2.2.2 rfl ?_
        refine rn_iload 0 rfl zd_X5_readSum_2.1.2.1.1 ?_
        refine rn_bipush (v := 41) zd_X5_readSum_2.1.2.1.2 rfl ?_
        rcases zif_e h with ⟨hc8, h⟩ | ⟨hc8, h⟩
        · refine rn_icmp_ne_f (tgt := 90) hc8 zd_X5_readSum_2.1.2.2.1 rfl ?_
          refine rn_aload_n (q := 0) 1 rfl zd_X5_readSum_2.1.2.2.2 ?_
          refine rn_getI zf_X5_133 (Or.inl rfl) k_a0 zd_X5_readSum_2.2.1.1.1 ?_
          rcases zif_e h with ⟨hc14, h⟩ | ⟨hc14, h⟩
          · refine rn_if_le_t (tgt := 90) hc14 zd_X5_readSum_2.2.1.1.2 rfl ?_
            exact rn_sub (ls' := [(0, .ref a0), (1, .ref a1), (3, .int x3), (4, .int r5)]) [1, 2, 4, 0] rfl (ok_j_X5_readSum_90 hW k_a0 k_a1 h hk)
          · refine rn_if_le_f (tgt := 90) hc14 zd_X5_readSum_2.2.1.1.2 rfl ?_
            refine rn_aload_n (q := 0) 1 rfl zd_X5_readSum_2.2.1.2.1 ?_
            refine rn_aload_n (q := 1) 2 rfl zd_X5_readSum_2.2.1.2.2 ?_
            obtain ⟨M15, h16, h⟩ := zbd_e h
            refine rn_callVv (As := [.ref a1]) (rest := []) zl_X5_140 zm_X5_readClose ⟨by decide, by decide⟩ (ci := 5) rfl rfl (by decide) k_a0 rfl rfl (Nat.le_of_ble_eq_true rfl) zd_X5_readSum_2.2.2.1.1 (ok_X5_readClose hW k_a0 k_a1 h16) ?_
            refine rn_goto (tgt := 107) zd_X5_readSum_2.2.2.1.2 rfl ?_
            refine rn_iinc (v := (x3 + 1)) (ls' := [(3, .int (x3 + 1)), (4, .int r5), (0, .ref a0), (1, .ref a1), (2, .int x2)]) 4 rfl rfl (by decide) rfl zd_X5_readSum_3.1.2.2.2 ?_
            refine rn_goto (tgt := 14) zd_X5_readSum_3.2.1.1.1 rfl ?_
            cases h
            exact rn_sub (ls' := [(0, .ref a0), (1, .ref a1), (2, .int x2), (3, .int (x3 + 1))]) [2, 3, 4, 0] rfl hk
        · refine rn_icmp_ne_t (tgt := 90) hc8 zd_X5_readSum_2.1.2.2.1 rfl ?_
          exact rn_sub (ls' := [(0, .ref a0), (1, .ref a1), (3, .int x3), (4, .int r5)]) [1, 2, 4, 0] rfl (ok_j_X5_readSum_90 hW k_a0 k_a1 h hk)
      · refine rn_if_eq_f (tgt := 68) hc7 zd_X5_readSum_1.1.2.2.2 rfl ?_
        refine rn_iload 0 rfl zd_X5_readSum_1.2.1.1.1 ?_
        refine rn_bipush (v := 40) zd_X5_readSum_1.2.1.1.2 rfl ?_
        rcases zif_e h with ⟨hc17, h⟩ | ⟨hc17, h⟩
        · refine rn_icmp_ne_f (tgt := 56) hc17 zd_X5_readSum_1.2.1.2.1 rfl ?_
          refine rn_iconst (v := 1) zd_X5_readSum_1.2.1.2.2 rfl ?_
          refine rn_goto (tgt := 57) zd_X5_readSum_1.2.2.1.1 rfl ?_
          exact rn_sub (ls' := [(0, .ref a0), (1, .ref a1), (3, .int x3), (4, .int r5)]) [1, 2, 4, 0] rfl (ok_j_X5_readSum_57 hW k_a0 k_a1 h hk)
        · refine rn_icmp_ne_t (tgt := 56) hc17 zd_X5_readSum_1.2.1.2.1 rfl ?_
          refine rn_iconst (v := 0) zd_X5_readSum_1.2.2.1.2 rfl ?_
          exact rn_sub (ls' := [(0, .ref a0), (1, .ref a1), (3, .int x3), (4, .int r5)]) [1, 2, 4, 0] rfl (ok_j_X5_readSum_57 hW k_a0 k_a1 h hk)
    · refine rn_if_ne_t (tgt := 113) hc4 zd_X5_readSum_0.2.2.2.2 rfl ?_
      cases h
      exact rn_sub (ls' := [(0, .ref a0), (1, .ref a1)]) [0, 1] rfl hk
def j_X5_readSum_129 (R : zR) (M : zM) (L : zL) (a0 : Nat) (a1 : Nat) : Option (zM) :=
  zbd (f_X5_putSigns R M a0 a1 (1 : Int32)) fun M22 =>
  some M22
set_option maxRecDepth 4000 in
theorem ok_j_X5_readSum_129 {G : zG} {K : zK} {R : zR} {M : zM} {L : zL} (hW : zWT R K) {a0 : Nat} {a1 : Nat} (k_a0 : K[a0]? = some (5, 10)) (k_a1 : K[a1]? = some (3, 5)) {M' : zM} (h : j_X5_readSum_129 R M L a0 a1 = some M') : Rn G mt_X5_readSum 129 [(0, .ref a0), (1, .ref a1)] [] (M, L, R, K) none (M', L, R, K) := by
  unfold j_X5_readSum_129 at h
  refine rn_aload_n (q := 0) 0 rfl zd_X5_readSum_4.1.2.1 ?_
  refine rn_aload_n (q := 1) 1 rfl zd_X5_readSum_4.1.2.2 ?_
  refine rn_iconst (v := 1) zd_X5_readSum_4.2.1 rfl ?_
  obtain ⟨M22, h23, h⟩ := zbd_e h
  refine rn_callVv (As := [.ref a1, .int (1 : Int32)]) (rest := []) zl_X5_149 zm_X5_putSigns ⟨by decide, by decide⟩ (ci := 5) rfl rfl (by decide) k_a0 rfl rfl (Nat.le_of_ble_eq_true rfl) zd_X5_readSum_4.2.2.1 (ok_X5_putSigns hW k_a0 k_a1 h23) ?_
  cases h
  exact rn_vret zd_X5_readSum_4.2.2.2 rfl
def f_X5_readSum (R : zR) (M : zM) (L : zL) (a0 : Nat) (a1 : Nat) : Option (zM) :=
  zlt (zup M a0 4 (0 : Int32)) fun M1 =>
  zlt (zup M1 a0 5 (0 : Int32)) fun M2 =>
  zbd (zloop zN (fun v => b_X5_readSum_14 R v.2.2 L a0 a1 v.1 v.2.1) ((1 : Int32), (0 : Int32), M2)) fun e20 =>
  if (e20 a0 5) ≤ 0 then (
    j_X5_readSum_129 R e20 L a0 a1
  ) else (
    zbd (f_X5_failAt R e20 a0 (e20 a0 3) (1 : Int32)) fun M24 =>
    j_X5_readSum_129 R M24 L a0 a1
  )
set_option maxRecDepth 4000 in
theorem ok_X5_readSum {G : zG} {K : zK} {R : zR} {M : zM} {L : zL} (hW : zWT R K) {a0 : Nat} {a1 : Nat} (k_a0 : K[a0]? = some (5, 10)) (k_a1 : K[a1]? = some (3, 5)) {M' : zM} (h : f_X5_readSum R M L a0 a1 = some M') : Rm G mt_X5_readSum [.ref a0, .ref a1] (M, L, R, K) none (M', L, R, K) := by
  refine rm_rn rfl rfl (Nat.le_of_ble_eq_true rfl) ?_
  show Rn G mt_X5_readSum 0 [(0, .ref a0), (1, .ref a1)] [] (M, L, R, K) none (M', L, R, K)
  unfold f_X5_readSum at h
  refine rn_aload_n (q := 0) 0 rfl zd_X5_readSum_0.1.1.1.1 ?_
  refine rn_iconst (v := 0) zd_X5_readSum_0.1.1.1.2 rfl ?_
  obtain ⟨M1, hM1, h⟩ := zlt_e h
  refine rn_putI hM1 zf_X5_130 k_a0 zd_X5_readSum_0.1.1.2.1 ?_
  refine rn_aload_n (q := 0) 0 rfl zd_X5_readSum_0.1.1.2.2 ?_
  refine rn_iconst (v := 0) zd_X5_readSum_0.1.2.1.1 rfl ?_
  obtain ⟨M2, hM2, h⟩ := zlt_e h
  refine rn_putI hM2 zf_X5_133 k_a0 zd_X5_readSum_0.1.2.1.2 ?_
  refine rn_iconst (v := 1) zd_X5_readSum_0.1.2.2.1 rfl ?_
  refine rn_istore_n (q := 2) (ls' := [(2, .int (1 : Int32)), (0, .ref a0), (1, .ref a1)]) (by decide) rfl zd_X5_readSum_0.1.2.2.2 ?_
  refine rn_iconst (v := 0) zd_X5_readSum_0.2.1.1.1 rfl ?_
  refine rn_istore_n (q := 3) (ls' := [(3, .int (0 : Int32)), (2, .int (1 : Int32)), (0, .ref a0), (1, .ref a1)]) (by decide) rfl zd_X5_readSum_0.2.1.1.2 ?_
  obtain ⟨e20, he20, h⟩ := zbd_e h
  refine rn_sub (ls' := [(0, .ref a0), (1, .ref a1), (2, .int (1 : Int32)), (3, .int (0 : Int32))]) [2, 3, 1, 0] rfl (zloop_ok (P := P_X5_readSum_14 G K R L a0 a1 none (M', L, R, K)) (Q := Q_X5_readSum_14 G K R L a0 a1 none (M', L, R, K)) (fun v x hx hq => ok_b_X5_readSum_14 hW k_a0 k_a1 hx hq) _ _ _ he20 ?_)
  show Rn G mt_X5_readSum 113 [(0, .ref a0), (1, .ref a1)] [] (e20, L, R, K) none (M', L, R, K)
  refine rn_aload_n (q := 0) 0 rfl zd_X5_readSum_3.2.1.1.2 ?_
  refine rn_getI zf_X5_133 (Or.inl rfl) k_a0 zd_X5_readSum_3.2.1.2.1 ?_
  rcases zif_e h with ⟨hc21, h⟩ | ⟨hc21, h⟩
  · refine rn_if_le_t (tgt := 129) hc21 zd_X5_readSum_3.2.1.2.2 rfl ?_
    exact rn_sub (ls' := [(0, .ref a0), (1, .ref a1)]) [0, 1] rfl (ok_j_X5_readSum_129 hW k_a0 k_a1 h)
  · refine rn_if_le_f (tgt := 129) hc21 zd_X5_readSum_3.2.1.2.2 rfl ?_
    refine rn_aload_n (q := 0) 0 rfl zd_X5_readSum_3.2.2.1.1 ?_
    refine rn_aload_n (q := 0) 0 rfl zd_X5_readSum_3.2.2.1.2 ?_
    refine rn_getI zf_X5_39 (Or.inl rfl) k_a0 zd_X5_readSum_3.2.2.2.1 ?_
    refine rn_iconst (v := 1) zd_X5_readSum_3.2.2.2.2 rfl ?_
    obtain ⟨M24, h25, h⟩ := zbd_e h
    refine rn_callVv (As := [.int (e20 a0 3), .int (1 : Int32)]) (rest := []) zl_X5_87 zm_X5_failAt ⟨by decide, by decide⟩ (ci := 5) rfl rfl (by decide) k_a0 rfl rfl (Nat.le_of_ble_eq_true rfl) zd_X5_readSum_4.1.1 (ok_X5_failAt hW k_a0 h25) ?_
    exact rn_sub (ls' := [(0, .ref a0), (1, .ref a1)]) [0, 1] rfl (ok_j_X5_readSum_129 hW k_a0 k_a1 h)
def f_X5_readBranch (R : zR) (M : zM) (L : zL) (a0 : Nat) (a1 : Nat) : Option (zM) :=
  zbd2 (f_X5_take R M a0 (107 : Int32)) fun r1 M2 =>
  zbd (f_X5_readSum R M2 L a0 a1) fun M4 =>
  zbd2 (f_X5_take R M4 a0 (60 : Int32)) fun r6 M7 =>
  zbd (f_X5_readSum R M7 L a0 a1) fun M9 =>
  zbd (f_X3_add R M9 a1 (3 : Int32) (0 : Int32)) fun M11 =>
  zbd2 (f_X5_take R M11 a0 (108 : Int32)) fun r13 M14 =>
  zbd (f_X5_readSum R M14 L a0 a1) fun M16 =>
  zbd (f_X3_add R M16 a1 (4 : Int32) (0 : Int32)) fun M18 =>
  zbd2 (f_X5_take R M18 a0 (109 : Int32)) fun r20 M21 =>
  zbd (f_X3_leadHere R M21 a1 (M9 a1 3)) fun M23 =>
  some M23
set_option maxRecDepth 4000 in
theorem ok_X5_readBranch {G : zG} {K : zK} {R : zR} {M : zM} {L : zL} (hW : zWT R K) {a0 : Nat} {a1 : Nat} (k_a0 : K[a0]? = some (5, 10)) (k_a1 : K[a1]? = some (3, 5)) {M' : zM} (h : f_X5_readBranch R M L a0 a1 = some M') : Rm G mt_X5_readBranch [.ref a0, .ref a1] (M, L, R, K) none (M', L, R, K) := by
  refine rm_rn rfl rfl (Nat.le_of_ble_eq_true rfl) ?_
  show Rn G mt_X5_readBranch 0 [(0, .ref a0), (1, .ref a1)] [] (M, L, R, K) none (M', L, R, K)
  unfold f_X5_readBranch at h
  refine rn_aload_n (q := 0) 0 rfl zd_X5_readBranch_0.1.1.1.1 ?_
  refine rn_bipush (v := 107) zd_X5_readBranch_0.1.1.1.2 rfl ?_
  obtain ⟨r1, M2, h3, h⟩ := zbd2_e h
  refine rn_callVi (As := [.int (107 : Int32)]) (rest := []) zl_X5_59 zm_X5_take ⟨by decide, by decide⟩ (ci := 5) rfl rfl (by decide) k_a0 rfl rfl (Nat.le_of_ble_eq_true rfl) zd_X5_readBranch_0.1.1.2.1 (ok_X5_take hW k_a0 h3) ?_
  refine rn_pop zd_X5_readBranch_0.1.1.2.2 rfl ?_
  refine rn_aload_n (q := 0) 0 rfl zd_X5_readBranch_0.1.2.1.1 ?_
  refine rn_aload_n (q := 1) 1 rfl zd_X5_readBranch_0.1.2.1.2 ?_
  obtain ⟨M4, h5, h⟩ := zbd_e h
  refine rn_callVv (As := [.ref a1]) (rest := []) zl_X5_118 zm_X5_readSum ⟨by decide, by decide⟩ (ci := 5) rfl rfl (by decide) k_a0 rfl rfl (Nat.le_of_ble_eq_true rfl) zd_X5_readBranch_0.1.2.2.1 (ok_X5_readSum hW k_a0 k_a1 h5) ?_
  refine rn_aload_n (q := 0) 0 rfl zd_X5_readBranch_0.1.2.2.2 ?_
  refine rn_bipush (v := 60) zd_X5_readBranch_0.2.1.1.1 rfl ?_
  obtain ⟨r6, M7, h8, h⟩ := zbd2_e h
  refine rn_callVi (As := [.int (60 : Int32)]) (rest := []) zl_X5_59 zm_X5_take ⟨by decide, by decide⟩ (ci := 5) rfl rfl (by decide) k_a0 rfl rfl (Nat.le_of_ble_eq_true rfl) zd_X5_readBranch_0.2.1.1.2 (ok_X5_take hW k_a0 h8) ?_
  refine rn_pop zd_X5_readBranch_0.2.1.2.1 rfl ?_
  refine rn_aload_n (q := 0) 0 rfl zd_X5_readBranch_0.2.1.2.2 ?_
  refine rn_aload_n (q := 1) 1 rfl zd_X5_readBranch_0.2.2.1.1 ?_
  obtain ⟨M9, h10, h⟩ := zbd_e h
  refine rn_callVv (As := [.ref a1]) (rest := []) zl_X5_118 zm_X5_readSum ⟨by decide, by decide⟩ (ci := 5) rfl rfl (by decide) k_a0 rfl rfl (Nat.le_of_ble_eq_true rfl) zd_X5_readBranch_0.2.2.1.2 (ok_X5_readSum hW k_a0 k_a1 h10) ?_
  refine rn_aload_n (q := 1) 1 rfl zd_X5_readBranch_0.2.2.2.1 ?_
  refine rn_getI zf_X5_124 (Or.inl rfl) k_a1 zd_X5_readBranch_0.2.2.2.2 ?_
  refine rn_istore_n (q := 2) (ls' := [(2, .int (M9 a1 3)), (0, .ref a0), (1, .ref a1)]) (by decide) rfl zd_X5_readBranch_1.1.1.1.1 ?_
  refine rn_aload_n (q := 1) 2 rfl zd_X5_readBranch_1.1.1.1.2 ?_
  refine rn_iconst (v := 3) zd_X5_readBranch_1.1.1.2.1 rfl ?_
  refine rn_iconst (v := 0) zd_X5_readBranch_1.1.1.2.2 rfl ?_
  obtain ⟨M11, h12, h⟩ := zbd_e h
  refine rn_callVv (As := [.int (3 : Int32), .int (0 : Int32)]) (rest := []) zl_X5_121 zm_X3_add ⟨by decide, by decide⟩ (ci := 3) rfl rfl (by decide) k_a1 rfl rfl (Nat.le_of_ble_eq_true rfl) zd_X5_readBranch_1.1.2.1.1 (ok_X3_add hW k_a1 h12) ?_
  refine rn_aload_n (q := 0) 1 rfl zd_X5_readBranch_1.1.2.1.2 ?_
  refine rn_bipush (v := 108) zd_X5_readBranch_1.1.2.2.1 rfl ?_
  obtain ⟨r13, M14, h15, h⟩ := zbd2_e h
  refine rn_callVi (As := [.int (108 : Int32)]) (rest := []) zl_X5_59 zm_X5_take ⟨by decide, by decide⟩ (ci := 5) rfl rfl (by decide) k_a0 rfl rfl (Nat.le_of_ble_eq_true rfl) zd_X5_readBranch_1.1.2.2.2 (ok_X5_take hW k_a0 h15) ?_
  refine rn_pop zd_X5_readBranch_1.2.1.1.1 rfl ?_
  refine rn_aload_n (q := 0) 1 rfl zd_X5_readBranch_1.2.1.1.2 ?_
  refine rn_aload_n (q := 1) 2 rfl zd_X5_readBranch_1.2.1.2.1 ?_
  obtain ⟨M16, h17, h⟩ := zbd_e h
  refine rn_callVv (As := [.ref a1]) (rest := []) zl_X5_118 zm_X5_readSum ⟨by decide, by decide⟩ (ci := 5) rfl rfl (by decide) k_a0 rfl rfl (Nat.le_of_ble_eq_true rfl) zd_X5_readBranch_1.2.1.2.2 (ok_X5_readSum hW k_a0 k_a1 h17) ?_
  refine rn_aload_n (q := 1) 2 rfl zd_X5_readBranch_1.2.2.1.1 ?_
  refine rn_iconst (v := 4) zd_X5_readBranch_1.2.2.1.2 rfl ?_
  refine rn_iconst (v := 0) zd_X5_readBranch_1.2.2.2.1 rfl ?_
  obtain ⟨M18, h19, h⟩ := zbd_e h
  refine rn_callVv (As := [.int (4 : Int32), .int (0 : Int32)]) (rest := []) zl_X5_121 zm_X3_add ⟨by decide, by decide⟩ (ci := 3) rfl rfl (by decide) k_a1 rfl rfl (Nat.le_of_ble_eq_true rfl) zd_X5_readBranch_1.2.2.2.2 (ok_X3_add hW k_a1 h19) ?_
  refine rn_aload_n (q := 0) 1 rfl zd_X5_readBranch_2.1.1.1 ?_
  refine rn_bipush (v := 109) zd_X5_readBranch_2.1.1.2 rfl ?_
  obtain ⟨r20, M21, h22, h⟩ := zbd2_e h
  refine rn_callVi (As := [.int (109 : Int32)]) (rest := []) zl_X5_59 zm_X5_take ⟨by decide, by decide⟩ (ci := 5) rfl rfl (by decide) k_a0 rfl rfl (Nat.le_of_ble_eq_true rfl) zd_X5_readBranch_2.1.2.1 (ok_X5_take hW k_a0 h22) ?_
  refine rn_pop zd_X5_readBranch_2.1.2.2 rfl ?_
  refine rn_aload_n (q := 1) 2 rfl zd_X5_readBranch_2.2.1.1 ?_
  refine rn_iload_n (q := 2) 0 rfl zd_X5_readBranch_2.2.1.2 ?_
  obtain ⟨M23, h24, h⟩ := zbd_e h
  refine rn_callVv (As := [.int (M9 a1 3)]) (rest := []) zl_X5_127 zm_X3_leadHere ⟨by decide, by decide⟩ (ci := 3) rfl rfl (by decide) k_a1 rfl rfl (Nat.le_of_ble_eq_true rfl) zd_X5_readBranch_2.2.2.1 (ok_X3_leadHere hW k_a1 h24) ?_
  cases h
  exact rn_vret zd_X5_readBranch_2.2.2.2 rfl
abbrev P_X5_tellLaw_24 (G : zG) (K : zK) (R : zR) (L : zL) (a0 : Nat) (a2 : Nat) (r : Option Value) (S' : zS) (v : Int32 × zM) : Prop := Rn G mt_X5_tellLaw 24 [(0, .ref a0), (2, .ref a2), (3, .int v.1)] [] (v.2, L, R, K) r S'
abbrev Q_X5_tellLaw_24 (G : zG) (K : zK) (R : zR) (L : zL) (a0 : Nat) (a2 : Nat) (r : Option Value) (S' : zS) : (zM) → Prop := (fun e => Rn G mt_X5_tellLaw 80 [(0, .ref a0), (2, .ref a2)] [] (e, L, R, K) r S')
def b_X5_tellLaw_24 (R : zR) (M : zM) (L : zL) (a0 : Nat) (a2 : Nat) (x3 : Int32) : Option ((Int32 × zM) ⊕ ((zM))) :=
  if (4 : Int32) < x3 then (
    some (.inr M)
  ) else (
    if (M a0 6) = 0 then (
      zbd (f_X9_kindAt R M (R a0 0) (M a0 3)) fun r13 =>
      if r13 = (107 : Int32) then (
        if x3 = (4 : Int32) then (
          zbd (f_X5_failAt R M a0 (M a0 3) (2 : Int32)) fun M19 =>
          some (.inl ((x3 + 1), M19))
        ) else (
          zbd (f_X5_readBranch R M L a0 a2) fun M17 =>
          some (.inl ((x3 + 1), M17))
        )
      ) else (
        some (.inr M)
      )
    ) else (
      some (.inr M)
    )
  )
set_option maxRecDepth 4000 in
theorem ok_b_X5_tellLaw_24 {G : zG} {K : zK} {R : zR} {M : zM} {L : zL} (hW : zWT R K) {a0 : Nat} {a2 : Nat} {x3 : Int32} (k_a0 : K[a0]? = some (5, 10)) (k_a2 : K[a2]? = some (3, 5)) {r : Option Value} {S' : zS} {x : (Int32 × zM) ⊕ ((zM))} (h : b_X5_tellLaw_24 R M L a0 a2 x3 = some x) (hk : Sum.elim (P_X5_tellLaw_24 G K R L a0 a2 r S') (Q_X5_tellLaw_24 G K R L a0 a2 r S') x) : P_X5_tellLaw_24 G K R L a0 a2 r S' (x3, M) := by
  show Rn G mt_X5_tellLaw 24 [(0, .ref a0), (2, .ref a2), (3, .int x3)] [] (M, L, R, K) r S'
  unfold b_X5_tellLaw_24 at h
  refine rn_iload_n (q := 3) 2 rfl zd_X5_tellLaw_0.2.2.1.2 ?_
  refine rn_iconst (v := 4) zd_X5_tellLaw_0.2.2.2.1 rfl ?_
  rcases zif_e h with ⟨hc11, h⟩ | ⟨hc11, h⟩
  · refine rn_icmp_gt_t (tgt := 80) hc11 zd_X5_tellLaw_0.2.2.2.2 rfl ?_
    cases h
    exact rn_sub (ls' := [(0, .ref a0), (2, .ref a2)]) [0, 1] rfl hk
  · refine rn_icmp_gt_f (tgt := 80) hc11 zd_X5_tellLaw_0.2.2.2.2 rfl ?_
    refine rn_aload_n (q := 0) 0 rfl zd_X5_tellLaw_1.1.1.1.1 ?_
    refine rn_getI zf_X5_42 (Or.inl rfl) k_a0 zd_X5_tellLaw_1.1.1.1.2 ?_
    rcases zif_e h with ⟨hc12, h⟩ | ⟨hc12, h⟩
    · refine rn_if_ne_f (tgt := 80) hc12 zd_X5_tellLaw_1.1.1.2.1 rfl ?_
      refine rn_aload_n (q := 0) 0 rfl zd_X5_tellLaw_1.1.1.2.2 ?_
      refine rn_getR zf_X5_12 (Or.inl ⟨_, rfl⟩) k_a0 (zx_5_0 hW k_a0) zd_X5_tellLaw_1.1.2.1.1 ?_
      refine rn_aload_n (q := 0) 0 rfl zd_X5_tellLaw_1.1.2.1.2 ?_
      refine rn_getI zf_X5_39 (Or.inl rfl) k_a0 zd_X5_tellLaw_1.1.2.2.1 ?_
      obtain ⟨r13, h14, h⟩ := zbd_e h
      refine rn_callVi (As := [.int (M a0 3)]) (rest := []) zl_X5_51 zm_X9_kindAt ⟨by decide, by decide⟩ (ci := 9) rfl rfl (by decide) (zw_5_0 hW k_a0) rfl rfl (Nat.le_of_ble_eq_true rfl) zd_X5_tellLaw_1.1.2.2.2 (ok_X9_kindAt hW (zw_5_0 hW k_a0) h14) ?_
      refine rn_bipush (v := 107) zd_X5_tellLaw_1.2.1.1.1 rfl ?_
      rcases zif_e h with ⟨hc15, h⟩ | ⟨hc15, h⟩
      · refine rn_icmp_ne_f (tgt := 80) hc15 zd_X5_tellLaw_1.2.1.1.2 rfl ?_
        refine rn_iload_n (q := 3) 2 rfl zd_X5_tellLaw_1.2.1.2.1 ?_
        refine rn_iconst (v := 4) zd_X5_tellLaw_1.2.1.2.2 rfl ?_
        rcases zif_e h with ⟨hc16, h⟩ | ⟨hc16, h⟩
        · refine rn_icmp_ne_f (tgt := 69) hc16 zd_X5_tellLaw_1.2.2.1.1 rfl ?_
          refine rn_aload_n (q := 0) 0 rfl zd_X5_tellLaw_1.2.2.1.2 ?_
          refine rn_aload_n (q := 0) 0 rfl zd_X5_tellLaw_1.2.2.2.1 ?_
          refine rn_getI zf_X5_39 (Or.inl rfl) k_a0 zd_X5_tellLaw_1.2.2.2.2 ?_
          refine rn_iconst (v := 2) zd_X5_tellLaw_2.1.1.1.1 rfl ?_
          obtain ⟨M19, h20, h⟩ := zbd_e h
          refine rn_callVv (As := [.int (M a0 3), .int (2 : Int32)]) (rest := []) zl_X5_87 zm_X5_failAt ⟨by decide, by decide⟩ (ci := 5) rfl rfl (by decide) k_a0 rfl rfl (Nat.le_of_ble_eq_true rfl) zd_X5_tellLaw_2.1.1.1.2 (ok_X5_failAt hW k_a0 h20) ?_
          refine rn_goto (tgt := 74) zd_X5_tellLaw_2.1.1.2.1 rfl ?_
          refine rn_iinc (v := (x3 + 1)) (ls' := [(3, .int (x3 + 1)), (0, .ref a0), (2, .ref a2)]) 2 rfl rfl (by decide) rfl zd_X5_tellLaw_2.1.2.2.1 ?_
          refine rn_goto (tgt := 24) zd_X5_tellLaw_2.1.2.2.2 rfl ?_
          cases h
          exact rn_sub (ls' := [(0, .ref a0), (2, .ref a2), (3, .int (x3 + 1))]) [1, 2, 0] rfl hk
        · refine rn_icmp_ne_t (tgt := 69) hc16 zd_X5_tellLaw_1.2.2.1.1 rfl ?_
          refine rn_aload_n (q := 0) 0 rfl zd_X5_tellLaw_2.1.1.2.2 ?_
          refine rn_aload_n (q := 2) 1 rfl zd_X5_tellLaw_2.1.2.1.1 ?_
          obtain ⟨M17, h18, h⟩ := zbd_e h
          refine rn_callVv (As := [.ref a2]) (rest := []) zl_X5_114 zm_X5_readBranch ⟨by decide, by decide⟩ (ci := 5) rfl rfl (by decide) k_a0 rfl rfl (Nat.le_of_ble_eq_true rfl) zd_X5_tellLaw_2.1.2.1.2 (ok_X5_readBranch hW k_a0 k_a2 h18) ?_
          refine rn_iinc (v := (x3 + 1)) (ls' := [(3, .int (x3 + 1)), (0, .ref a0), (2, .ref a2)]) 2 rfl rfl (by decide) rfl zd_X5_tellLaw_2.1.2.2.1 ?_
          refine rn_goto (tgt := 24) zd_X5_tellLaw_2.1.2.2.2 rfl ?_
          cases h
          exact rn_sub (ls' := [(0, .ref a0), (2, .ref a2), (3, .int (x3 + 1))]) [1, 2, 0] rfl hk
      · refine rn_icmp_ne_t (tgt := 80) hc15 zd_X5_tellLaw_1.2.1.1.2 rfl ?_
        cases h
        exact rn_sub (ls' := [(0, .ref a0), (2, .ref a2)]) [0, 1] rfl hk
    · refine rn_if_ne_t (tgt := 80) hc12 zd_X5_tellLaw_1.1.1.2.1 rfl ?_
      cases h
      exact rn_sub (ls' := [(0, .ref a0), (2, .ref a2)]) [0, 1] rfl hk
def f_X5_tellLaw (R : zR) (M : zM) (L : zL) (a0 : Nat) (x1 : Int32) (a2 : Nat) : Option (zM) :=
  zbd (f_X3_clear M a2) fun M1 =>
  zbd2 (f_X5_take R M1 a0 x1) fun r3 M4 =>
  if r3 = 0 then (
    some M4
  ) else (
    zbd2 (f_X5_take R M4 a0 (61 : Int32)) fun r7 M8 =>
    if r7 = 0 then (
      some M8
    ) else (
      zbd (zloop zN (fun v => b_X5_tellLaw_24 R v.2 L a0 a2 v.1) ((0 : Int32), M8)) fun e21 =>
      zbd (f_X5_readSum R e21 L a0 a2) fun M22 =>
      zbd (f_X3_add R M22 a2 (4 : Int32) (0 : Int32)) fun M24 =>
      zbd2 (f_X5_take R M24 a0 (59 : Int32)) fun r26 M27 =>
      some M27
    )
  )
set_option maxRecDepth 4000 in
theorem ok_X5_tellLaw {G : zG} {K : zK} {R : zR} {M : zM} {L : zL} (hW : zWT R K) {a0 : Nat} {x1 : Int32} {a2 : Nat} (k_a0 : K[a0]? = some (5, 10)) (k_a2 : K[a2]? = some (3, 5)) {M' : zM} (h : f_X5_tellLaw R M L a0 x1 a2 = some M') : Rm G mt_X5_tellLaw [.ref a0, .int x1, .ref a2] (M, L, R, K) none (M', L, R, K) := by
  refine rm_rn rfl rfl (Nat.le_of_ble_eq_true rfl) ?_
  show Rn G mt_X5_tellLaw 0 [(0, .ref a0), (1, .int x1), (2, .ref a2)] [] (M, L, R, K) none (M', L, R, K)
  unfold f_X5_tellLaw at h
  refine rn_aload_n (q := 2) 2 rfl zd_X5_tellLaw_0.1.1.1.1 ?_
  obtain ⟨M1, h2, h⟩ := zbd_e h
  refine rn_callVv (As := []) (rest := []) zl_X5_111 zm_X3_clear ⟨by decide, by decide⟩ (ci := 3) rfl rfl (by decide) k_a2 rfl rfl (Nat.le_of_ble_eq_true rfl) zd_X5_tellLaw_0.1.1.1.2 (ok_X3_clear hW k_a2 h2) ?_
  refine rn_aload_n (q := 0) 0 rfl zd_X5_tellLaw_0.1.1.2.1 ?_
  refine rn_iload_n (q := 1) 1 rfl zd_X5_tellLaw_0.1.1.2.2 ?_
  obtain ⟨r3, M4, h5, h⟩ := zbd2_e h
  refine rn_callVi (As := [.int x1]) (rest := []) zl_X5_59 zm_X5_take ⟨by decide, by decide⟩ (ci := 5) rfl rfl (by decide) k_a0 rfl rfl (Nat.le_of_ble_eq_true rfl) zd_X5_tellLaw_0.1.2.1.1 (ok_X5_take hW k_a0 h5) ?_
  rcases zif_e h with ⟨hc6, h⟩ | ⟨hc6, h⟩
  · refine rn_if_eq_t (tgt := 21) hc6 zd_X5_tellLaw_0.1.2.1.2 rfl ?_
    cases h
    exact rn_vret zd_X5_tellLaw_0.2.1.2.1 rfl
  · refine rn_if_eq_f (tgt := 21) hc6 zd_X5_tellLaw_0.1.2.1.2 rfl ?_
    refine rn_aload_n (q := 0) 0 rfl zd_X5_tellLaw_0.1.2.2.1 ?_
    refine rn_bipush (v := 61) zd_X5_tellLaw_0.1.2.2.2 rfl ?_
    obtain ⟨r7, M8, h9, h⟩ := zbd2_e h
    refine rn_callVi (As := [.int (61 : Int32)]) (rest := []) zl_X5_59 zm_X5_take ⟨by decide, by decide⟩ (ci := 5) rfl rfl (by decide) k_a0 rfl rfl (Nat.le_of_ble_eq_true rfl) zd_X5_tellLaw_0.2.1.1.1 (ok_X5_take hW k_a0 h9) ?_
    rcases zif_e h with ⟨hc10, h⟩ | ⟨hc10, h⟩
    · refine rn_if_ne_f (tgt := 22) hc10 zd_X5_tellLaw_0.2.1.1.2 rfl ?_
      cases h
      exact rn_vret zd_X5_tellLaw_0.2.1.2.1 rfl
    · refine rn_if_ne_t (tgt := 22) hc10 zd_X5_tellLaw_0.2.1.1.2 rfl ?_
      refine rn_iconst (v := 0) zd_X5_tellLaw_0.2.1.2.2 rfl ?_
      refine rn_istore_n (q := 3) (ls' := [(3, .int (0 : Int32)), (0, .ref a0), (1, .int x1), (2, .ref a2)]) (by decide) rfl zd_X5_tellLaw_0.2.2.1.1 ?_
      obtain ⟨e21, he21, h⟩ := zbd_e h
      refine rn_sub (ls' := [(0, .ref a0), (2, .ref a2), (3, .int (0 : Int32))]) [1, 3, 0] rfl (zloop_ok (P := P_X5_tellLaw_24 G K R L a0 a2 none (M', L, R, K)) (Q := Q_X5_tellLaw_24 G K R L a0 a2 none (M', L, R, K)) (fun v x hx hq => ok_b_X5_tellLaw_24 hW k_a0 k_a2 hx hq) _ _ _ he21 ?_)
      show Rn G mt_X5_tellLaw 80 [(0, .ref a0), (2, .ref a2)] [] (e21, L, R, K) none (M', L, R, K)
      refine rn_aload_n (q := 0) 0 rfl zd_X5_tellLaw_2.2.1.1.1 ?_
      refine rn_aload_n (q := 2) 1 rfl zd_X5_tellLaw_2.2.1.1.2 ?_
      obtain ⟨M22, h23, h⟩ := zbd_e h
      refine rn_callVv (As := [.ref a2]) (rest := []) zl_X5_118 zm_X5_readSum ⟨by decide, by decide⟩ (ci := 5) rfl rfl (by decide) k_a0 rfl rfl (Nat.le_of_ble_eq_true rfl) zd_X5_tellLaw_2.2.1.2.1 (ok_X5_readSum hW k_a0 k_a2 h23) ?_
      refine rn_aload_n (q := 2) 1 rfl zd_X5_tellLaw_2.2.1.2.2 ?_
      refine rn_iconst (v := 4) zd_X5_tellLaw_2.2.2.1.1 rfl ?_
      refine rn_iconst (v := 0) zd_X5_tellLaw_2.2.2.1.2 rfl ?_
      obtain ⟨M24, h25, h⟩ := zbd_e h
      refine rn_callVv (As := [.int (4 : Int32), .int (0 : Int32)]) (rest := []) zl_X5_121 zm_X3_add ⟨by decide, by decide⟩ (ci := 3) rfl rfl (by decide) k_a2 rfl rfl (Nat.le_of_ble_eq_true rfl) zd_X5_tellLaw_2.2.2.2.1 (ok_X3_add hW k_a2 h25) ?_
      refine rn_aload_n (q := 0) 0 rfl zd_X5_tellLaw_2.2.2.2.2 ?_
      refine rn_bipush (v := 59) zd_X5_tellLaw_3.1.1 rfl ?_
      obtain ⟨r26, M27, h28, h⟩ := zbd2_e h
      refine rn_callVi (As := [.int (59 : Int32)]) (rest := []) zl_X5_59 zm_X5_take ⟨by decide, by decide⟩ (ci := 5) rfl rfl (by decide) k_a0 rfl rfl (Nat.le_of_ble_eq_true rfl) zd_X5_tellLaw_3.1.2 (ok_X5_take hW k_a0 h28) ?_
      refine rn_pop zd_X5_tellLaw_3.2.1 rfl ?_
      cases h
      exact rn_vret zd_X5_tellLaw_3.2.2 rfl
def f_X5_tellSeed (R : zR) (M : zM) (L : zL) (a0 : Nat) (a1 : Nat) : Option (zM) :=
  zbd2 (f_X5_take R M a0 (106 : Int32)) fun r1 M2 =>
  if r1 = 0 then (
    some M2
  ) else (
    zbd2 (f_X5_take R M2 a0 (3 : Int32)) fun r5 M6 =>
    if r5 = 0 then (
      some M6
    ) else (
      zbd2 (f_X5_take R M6 a0 (59 : Int32)) fun r9 M10 =>
      if r9 = 0 then (
        some M10
      ) else (
        zbd (f_X9_valueOf R L (R a0 0) ((M a0 3) + (1 : Int32))) fun r13 =>
        zlt (zup M10 a1 10 r13.toInt32) fun M15 =>
        some M15
      )
    )
  )
set_option maxRecDepth 4000 in
theorem ok_X5_tellSeed {G : zG} {K : zK} {R : zR} {M : zM} {L : zL} (hW : zWT R K) {a0 : Nat} {a1 : Nat} (k_a0 : K[a0]? = some (5, 10)) (k_a1 : K[a1]? = some (7, 11)) {M' : zM} (h : f_X5_tellSeed R M L a0 a1 = some M') : Rm G mt_X5_tellSeed [.ref a0, .ref a1] (M, L, R, K) none (M', L, R, K) := by
  refine rm_rn rfl rfl (Nat.le_of_ble_eq_true rfl) ?_
  show Rn G mt_X5_tellSeed 0 [(0, .ref a0), (1, .ref a1)] [] (M, L, R, K) none (M', L, R, K)
  unfold f_X5_tellSeed at h
  refine rn_aload_n (q := 0) 0 rfl zd_X5_tellSeed_0.1.1.1.1 ?_
  refine rn_getI zf_X5_39 (Or.inl rfl) k_a0 zd_X5_tellSeed_0.1.1.1.2 ?_
  refine rn_iconst (v := 1) zd_X5_tellSeed_0.1.1.2.1 rfl ?_
  refine rn_iadd zd_X5_tellSeed_0.1.1.2.2 ?_
  refine rn_istore_n (q := 2) (ls' := [(2, .int ((M a0 3) + (1 : Int32))), (0, .ref a0), (1, .ref a1)]) (by decide) rfl zd_X5_tellSeed_0.1.2.1.1 ?_
  refine rn_aload_n (q := 0) 1 rfl zd_X5_tellSeed_0.1.2.1.2 ?_
  refine rn_bipush (v := 106) zd_X5_tellSeed_0.1.2.2.1 rfl ?_
  obtain ⟨r1, M2, h3, h⟩ := zbd2_e h
  refine rn_callVi (As := [.int (106 : Int32)]) (rest := []) zl_X5_59 zm_X5_take ⟨by decide, by decide⟩ (ci := 5) rfl rfl (by decide) k_a0 rfl rfl (Nat.le_of_ble_eq_true rfl) zd_X5_tellSeed_0.1.2.2.2 (ok_X5_take hW k_a0 h3) ?_
  rcases zif_e h with ⟨hc4, h⟩ | ⟨hc4, h⟩
  · refine rn_if_eq_t (tgt := 46) hc4 zd_X5_tellSeed_0.2.1.1.1 rfl ?_
    cases h
    exact rn_vret zd_X5_tellSeed_1.2.2.2.2 rfl
  · refine rn_if_eq_f (tgt := 46) hc4 zd_X5_tellSeed_0.2.1.1.1 rfl ?_
    refine rn_aload_n (q := 0) 1 rfl zd_X5_tellSeed_0.2.1.1.2 ?_
    refine rn_iconst (v := 3) zd_X5_tellSeed_0.2.1.2.1 rfl ?_
    obtain ⟨r5, M6, h7, h⟩ := zbd2_e h
    refine rn_callVi (As := [.int (3 : Int32)]) (rest := []) zl_X5_59 zm_X5_take ⟨by decide, by decide⟩ (ci := 5) rfl rfl (by decide) k_a0 rfl rfl (Nat.le_of_ble_eq_true rfl) zd_X5_tellSeed_0.2.1.2.2 (ok_X5_take hW k_a0 h7) ?_
    rcases zif_e h with ⟨hc8, h⟩ | ⟨hc8, h⟩
    · refine rn_if_eq_t (tgt := 46) hc8 zd_X5_tellSeed_0.2.2.1.1 rfl ?_
      cases h
      exact rn_vret zd_X5_tellSeed_1.2.2.2.2 rfl
    · refine rn_if_eq_f (tgt := 46) hc8 zd_X5_tellSeed_0.2.2.1.1 rfl ?_
      refine rn_aload_n (q := 0) 1 rfl zd_X5_tellSeed_0.2.2.1.2 ?_
      refine rn_bipush (v := 59) zd_X5_tellSeed_0.2.2.2.1 rfl ?_
      obtain ⟨r9, M10, h11, h⟩ := zbd2_e h
      refine rn_callVi (As := [.int (59 : Int32)]) (rest := []) zl_X5_59 zm_X5_take ⟨by decide, by decide⟩ (ci := 5) rfl rfl (by decide) k_a0 rfl rfl (Nat.le_of_ble_eq_true rfl) zd_X5_tellSeed_0.2.2.2.2 (ok_X5_take hW k_a0 h11) ?_
      rcases zif_e h with ⟨hc12, h⟩ | ⟨hc12, h⟩
      · refine rn_if_eq_t (tgt := 46) hc12 zd_X5_tellSeed_1.1.1.1 rfl ?_
        cases h
        exact rn_vret zd_X5_tellSeed_1.2.2.2.2 rfl
      · refine rn_if_eq_f (tgt := 46) hc12 zd_X5_tellSeed_1.1.1.1 rfl ?_
        refine rn_aload_n (q := 1) 2 rfl zd_X5_tellSeed_1.1.1.2 ?_
        refine rn_aload_n (q := 0) 1 rfl zd_X5_tellSeed_1.1.2.1 ?_
        refine rn_getR zf_X5_12 (Or.inl ⟨_, rfl⟩) k_a0 (zx_5_0 hW k_a0) zd_X5_tellSeed_1.1.2.2 ?_
        refine rn_iload_n (q := 2) 0 rfl zd_X5_tellSeed_1.2.1.1 ?_
        obtain ⟨r13, h14, h⟩ := zbd_e h
        refine rn_callVl (As := [.int ((M a0 3) + (1 : Int32))]) (rest := [.ref a1]) zl_X5_94 zm_X9_valueOf ⟨by decide, by decide⟩ (ci := 9) rfl rfl (by decide) (zw_5_0 hW k_a0) rfl rfl (Nat.le_of_ble_eq_true rfl) zd_X5_tellSeed_1.2.1.2 (ok_X9_valueOf hW (zw_5_0 hW k_a0) h14) ?_
        refine rn_l2i zd_X5_tellSeed_1.2.2.1 ?_
        obtain ⟨M15, hM15, h⟩ := zlt_e h
        refine rn_putI hM15 zf_X5_108 k_a1 zd_X5_tellSeed_1.2.2.2.1 ?_
        cases h
        exact rn_vret zd_X5_tellSeed_1.2.2.2.2 rfl
def j_X5_tellShared_108 (R : zR) (M : zM) (L : zL) (a0 : Nat) (x3 : Int32) : Option (zM) :=
  zbd (f_X5_failLater R M a0 x3 (5 : Int32)) fun M23 =>
  some M23
set_option maxRecDepth 4000 in
theorem ok_j_X5_tellShared_108 {G : zG} {K : zK} {R : zR} {M : zM} {L : zL} (hW : zWT R K) {a0 : Nat} {x3 : Int32} (k_a0 : K[a0]? = some (5, 10)) {M' : zM} (h : j_X5_tellShared_108 R M L a0 x3 = some M') : Rn G mt_X5_tellShared 108 [(0, .ref a0), (3, .int x3)] [] (M, L, R, K) none (M', L, R, K) := by
  unfold j_X5_tellShared_108 at h
  refine rn_aload_n (q := 0) 0 rfl zd_X5_tellShared_3.2.1.1.2 ?_
  refine rn_iload_n (q := 3) 1 rfl zd_X5_tellShared_3.2.1.2.1 ?_
  refine rn_iconst (v := 5) zd_X5_tellShared_3.2.1.2.2 rfl ?_
  obtain ⟨M23, h24, h⟩ := zbd_e h
  refine rn_callVv (As := [.int x3, .int (5 : Int32)]) (rest := []) zl_X5_98 zm_X5_failLater ⟨by decide, by decide⟩ (ci := 5) rfl rfl (by decide) k_a0 rfl rfl (Nat.le_of_ble_eq_true rfl) zd_X5_tellShared_3.2.2.1.1 (ok_X5_failLater hW k_a0 h24) ?_
  refine rn_goto (tgt := 127) zd_X5_tellShared_3.2.2.1.2 rfl ?_
  cases h
  exact rn_vret zd_X5_tellShared_4.2.2.2 rfl
def j_X5_tellShared_58 (R : zR) (M : zM) (L : zL) (a0 : Nat) (a1 : Nat) (x2 : Int32) (x3 : Int32) : Option (zM) :=
  zbd2 (f_X5_take R M a0 x2) fun r8 M9 =>
  if r8 = 0 then (
    some M9
  ) else (
    zbd2 (f_X5_take R M9 a0 (3 : Int32)) fun r12 M13 =>
    if r12 = 0 then (
      some M13
    ) else (
      zbd2 (f_X5_take R M13 a0 (59 : Int32)) fun r16 M17 =>
      if r16 = 0 then (
        some M17
      ) else (
        zbd (f_X9_valueOf R L (R a0 0) x3) fun r20 =>
        if r20.toInt32 < (1 : Int32) then (
          j_X5_tellShared_108 R M17 L a0 x3
        ) else (
          if r20.toInt32 ≤ (30 : Int32) then (
            zbd (f_X7_share M17 a1 (x2 - (110 : Int32)) r20.toInt32) fun M26 =>
            some M26
          ) else (
            j_X5_tellShared_108 R M17 L a0 x3
          )
        )
      )
    )
  )
set_option maxRecDepth 4000 in
theorem ok_j_X5_tellShared_58 {G : zG} {K : zK} {R : zR} {M : zM} {L : zL} (hW : zWT R K) {a0 : Nat} {a1 : Nat} {x2 : Int32} {x3 : Int32} (k_a0 : K[a0]? = some (5, 10)) (k_a1 : K[a1]? = some (7, 11)) {M' : zM} (h : j_X5_tellShared_58 R M L a0 a1 x2 x3 = some M') : Rn G mt_X5_tellShared 58 [(0, .ref a0), (1, .ref a1), (2, .int x2), (3, .int x3)] [] (M, L, R, K) none (M', L, R, K) := by
  unfold j_X5_tellShared_58 at h
  refine rn_aload_n (q := 0) 0 rfl zd_X5_tellShared_2.1.1.1.1 ?_
  refine rn_iload_n (q := 2) 2 rfl zd_X5_tellShared_2.1.1.1.2 ?_
  obtain ⟨r8, M9, h10, h⟩ := zbd2_e h
  refine rn_callVi (As := [.int x2]) (rest := []) zl_X5_59 zm_X5_take ⟨by decide, by decide⟩ (ci := 5) rfl rfl (by decide) k_a0 rfl rfl (Nat.le_of_ble_eq_true rfl) zd_X5_tellShared_2.1.1.2.1 (ok_X5_take hW k_a0 h10) ?_
  rcases zif_e h with ⟨hc11, h⟩ | ⟨hc11, h⟩
  · refine rn_if_eq_t (tgt := 83) hc11 zd_X5_tellShared_2.1.1.2.2 rfl ?_
    cases h
    exact rn_vret zd_X5_tellShared_2.2.2.1.1 rfl
  · refine rn_if_eq_f (tgt := 83) hc11 zd_X5_tellShared_2.1.1.2.2 rfl ?_
    refine rn_aload_n (q := 0) 0 rfl zd_X5_tellShared_2.1.2.1.1 ?_
    refine rn_iconst (v := 3) zd_X5_tellShared_2.1.2.1.2 rfl ?_
    obtain ⟨r12, M13, h14, h⟩ := zbd2_e h
    refine rn_callVi (As := [.int (3 : Int32)]) (rest := []) zl_X5_59 zm_X5_take ⟨by decide, by decide⟩ (ci := 5) rfl rfl (by decide) k_a0 rfl rfl (Nat.le_of_ble_eq_true rfl) zd_X5_tellShared_2.1.2.2.1 (ok_X5_take hW k_a0 h14) ?_
    rcases zif_e h with ⟨hc15, h⟩ | ⟨hc15, h⟩
    · refine rn_if_eq_t (tgt := 83) hc15 zd_X5_tellShared_2.1.2.2.2 rfl ?_
      cases h
      exact rn_vret zd_X5_tellShared_2.2.2.1.1 rfl
    · refine rn_if_eq_f (tgt := 83) hc15 zd_X5_tellShared_2.1.2.2.2 rfl ?_
      refine rn_aload_n (q := 0) 0 rfl zd_X5_tellShared_2.2.1.1.1 ?_
      refine rn_bipush (v := 59) zd_X5_tellShared_2.2.1.1.2 rfl ?_
      obtain ⟨r16, M17, h18, h⟩ := zbd2_e h
      refine rn_callVi (As := [.int (59 : Int32)]) (rest := []) zl_X5_59 zm_X5_take ⟨by decide, by decide⟩ (ci := 5) rfl rfl (by decide) k_a0 rfl rfl (Nat.le_of_ble_eq_true rfl) zd_X5_tellShared_2.2.1.2.1 (ok_X5_take hW k_a0 h18) ?_
      rcases zif_e h with ⟨hc19, h⟩ | ⟨hc19, h⟩
      · refine rn_if_ne_f (tgt := 84) hc19 zd_X5_tellShared_2.2.1.2.2 rfl ?_
        cases h
        exact rn_vret zd_X5_tellShared_2.2.2.1.1 rfl
      · refine rn_if_ne_t (tgt := 84) hc19 zd_X5_tellShared_2.2.1.2.2 rfl ?_
        refine rn_aload_n (q := 0) 0 rfl zd_X5_tellShared_2.2.2.1.2 ?_
        refine rn_getR zf_X5_12 (Or.inl ⟨_, rfl⟩) k_a0 (zx_5_0 hW k_a0) zd_X5_tellShared_2.2.2.2.1 ?_
        refine rn_iload_n (q := 3) 3 rfl zd_X5_tellShared_2.2.2.2.2 ?_
        obtain ⟨r20, h21, h⟩ := zbd_e h
        refine rn_callVl (As := [.int x3]) (rest := []) zl_X5_94 zm_X9_valueOf ⟨by decide, by decide⟩ (ci := 9) rfl rfl (by decide) (zw_5_0 hW k_a0) rfl rfl (Nat.le_of_ble_eq_true rfl) zd_X5_tellShared_3.1.1.1.1 (ok_X9_valueOf hW (zw_5_0 hW k_a0) h21) ?_
        refine rn_l2i zd_X5_tellShared_3.1.1.1.2 ?_
        refine rn_istore (ls' := [(4, .int r20.toInt32), (0, .ref a0), (1, .ref a1), (2, .int x2), (3, .int x3)]) (by decide) rfl zd_X5_tellShared_3.1.1.2.1 ?_
        refine rn_iload 0 rfl zd_X5_tellShared_3.1.1.2.2 ?_
        refine rn_iconst (v := 1) zd_X5_tellShared_3.1.2.1.1 rfl ?_
        rcases zif_e h with ⟨hc22, h⟩ | ⟨hc22, h⟩
        · refine rn_icmp_lt_t (tgt := 108) hc22 zd_X5_tellShared_3.1.2.1.2 rfl ?_
          exact rn_sub (ls' := [(0, .ref a0), (3, .int x3)]) [1, 4] rfl (ok_j_X5_tellShared_108 hW k_a0 h)
        · refine rn_icmp_lt_f (tgt := 108) hc22 zd_X5_tellShared_3.1.2.1.2 rfl ?_
          refine rn_iload 0 rfl zd_X5_tellShared_3.1.2.2.1 ?_
          refine rn_bipush (v := 30) zd_X5_tellShared_3.1.2.2.2 rfl ?_
          rcases zif_e h with ⟨hc25, h⟩ | ⟨hc25, h⟩
          · refine rn_icmp_le_t (tgt := 117) hc25 zd_X5_tellShared_3.2.1.1.1 rfl ?_
            refine rn_aload_n (q := 1) 2 rfl zd_X5_tellShared_3.2.2.2.1 ?_
            refine rn_iload_n (q := 2) 3 rfl zd_X5_tellShared_3.2.2.2.2 ?_
            refine rn_bipush (v := 110) zd_X5_tellShared_4.1.1 rfl ?_
            refine rn_isub zd_X5_tellShared_4.1.2 ?_
            refine rn_iload 0 rfl zd_X5_tellShared_4.2.1 ?_
            obtain ⟨M26, h27, h⟩ := zbd_e h
            refine rn_callVv (As := [.int (x2 - (110 : Int32)), .int r20.toInt32]) (rest := []) zl_X5_105 zm_X7_share ⟨by decide, by decide⟩ (ci := 7) rfl rfl (by decide) k_a1 rfl rfl (Nat.le_of_ble_eq_true rfl) zd_X5_tellShared_4.2.2.1 (ok_X7_share hW k_a1 h27) ?_
            cases h
            exact rn_vret zd_X5_tellShared_4.2.2.2 rfl
          · refine rn_icmp_le_f (tgt := 117) hc25 zd_X5_tellShared_3.2.1.1.1 rfl ?_
            exact rn_sub (ls' := [(0, .ref a0), (3, .int x3)]) [1, 4] rfl (ok_j_X5_tellShared_108 hW k_a0 h)
def f_X5_tellShared (R : zR) (M : zM) (L : zL) (a0 : Nat) (a1 : Nat) : Option (zM) :=
  zbd (f_X9_kindAt R M (R a0 0) ((M a0 3) + (1 : Int32))) fun r1 =>
  zbd2 (f_X5_take R M a0 (105 : Int32)) fun r3 M4 =>
  if r3 = 0 then (
    some M4
  ) else (
    if r1 = (110 : Int32) then (
      j_X5_tellShared_58 R M4 L a0 a1 r1 ((M a0 3) + (2 : Int32))
    ) else (
      if r1 = (111 : Int32) then (
        j_X5_tellShared_58 R M4 L a0 a1 r1 ((M a0 3) + (2 : Int32))
      ) else (
        if r1 = (112 : Int32) then (
          j_X5_tellShared_58 R M4 L a0 a1 r1 ((M a0 3) + (2 : Int32))
        ) else (
          zbd (f_X5_failAt R M4 a0 (M4 a0 3) (1 : Int32)) fun M30 =>
          j_X5_tellShared_58 R M30 L a0 a1 r1 ((M a0 3) + (2 : Int32))
        )
      )
    )
  )
set_option maxRecDepth 4000 in
theorem ok_X5_tellShared {G : zG} {K : zK} {R : zR} {M : zM} {L : zL} (hW : zWT R K) {a0 : Nat} {a1 : Nat} (k_a0 : K[a0]? = some (5, 10)) (k_a1 : K[a1]? = some (7, 11)) {M' : zM} (h : f_X5_tellShared R M L a0 a1 = some M') : Rm G mt_X5_tellShared [.ref a0, .ref a1] (M, L, R, K) none (M', L, R, K) := by
  refine rm_rn rfl rfl (Nat.le_of_ble_eq_true rfl) ?_
  show Rn G mt_X5_tellShared 0 [(0, .ref a0), (1, .ref a1)] [] (M, L, R, K) none (M', L, R, K)
  unfold f_X5_tellShared at h
  refine rn_aload_n (q := 0) 0 rfl zd_X5_tellShared_0.1.1.1.1 ?_
  refine rn_getR zf_X5_12 (Or.inl ⟨_, rfl⟩) k_a0 (zx_5_0 hW k_a0) zd_X5_tellShared_0.1.1.1.2 ?_
  refine rn_aload_n (q := 0) 0 rfl zd_X5_tellShared_0.1.1.2.1 ?_
  refine rn_getI zf_X5_39 (Or.inl rfl) k_a0 zd_X5_tellShared_0.1.1.2.2 ?_
  refine rn_iconst (v := 1) zd_X5_tellShared_0.1.2.1.1 rfl ?_
  refine rn_iadd zd_X5_tellShared_0.1.2.1.2 ?_
  obtain ⟨r1, h2, h⟩ := zbd_e h
  refine rn_callVi (As := [.int ((M a0 3) + (1 : Int32))]) (rest := []) zl_X5_51 zm_X9_kindAt ⟨by decide, by decide⟩ (ci := 9) rfl rfl (by decide) (zw_5_0 hW k_a0) rfl rfl (Nat.le_of_ble_eq_true rfl) zd_X5_tellShared_0.1.2.2.1 (ok_X9_kindAt hW (zw_5_0 hW k_a0) h2) ?_
  refine rn_istore_n (q := 2) (ls' := [(2, .int r1), (0, .ref a0), (1, .ref a1)]) (by decide) rfl zd_X5_tellShared_0.1.2.2.2 ?_
  refine rn_aload_n (q := 0) 1 rfl zd_X5_tellShared_0.2.1.1.1 ?_
  refine rn_getI zf_X5_39 (Or.inl rfl) k_a0 zd_X5_tellShared_0.2.1.1.2 ?_
  refine rn_iconst (v := 2) zd_X5_tellShared_0.2.1.2.1 rfl ?_
  refine rn_iadd zd_X5_tellShared_0.2.1.2.2 ?_
  refine rn_istore_n (q := 3) (ls' := [(3, .int ((M a0 3) + (2 : Int32))), (2, .int r1), (0, .ref a0), (1, .ref a1)]) (by decide) rfl zd_X5_tellShared_0.2.2.1.1 ?_
  refine rn_aload_n (q := 0) 2 rfl zd_X5_tellShared_0.2.2.1.2 ?_
  refine rn_bipush (v := 105) zd_X5_tellShared_0.2.2.2.1 rfl ?_
  obtain ⟨r3, M4, h5, h⟩ := zbd2_e h
  refine rn_callVi (As := [.int (105 : Int32)]) (rest := []) zl_X5_59 zm_X5_take ⟨by decide, by decide⟩ (ci := 5) rfl rfl (by decide) k_a0 rfl rfl (Nat.le_of_ble_eq_true rfl) zd_X5_tellShared_0.2.2.2.2 (ok_X5_take hW k_a0 h5) ?_
  rcases zif_e h with ⟨hc6, h⟩ | ⟨hc6, h⟩
  · refine rn_if_ne_f (tgt := 31) hc6 zd_X5_tellShared_1.1.1.1.1 rfl ?_
    cases h
    exact rn_vret zd_X5_tellShared_1.1.1.1.2 rfl
  · refine rn_if_ne_t (tgt := 31) hc6 zd_X5_tellShared_1.1.1.1.1 rfl ?_
    refine rn_iload_n (q := 2) 1 rfl zd_X5_tellShared_1.1.1.2.1 ?_
    refine rn_bipush (v := 110) zd_X5_tellShared_1.1.1.2.2 rfl ?_
    rcases zif_e h with ⟨hc7, h⟩ | ⟨hc7, h⟩
    · refine rn_icmp_eq_t (tgt := 58) hc7 zd_X5_tellShared_1.1.2.1.1 rfl ?_
      exact rn_sub (ls' := [(0, .ref a0), (1, .ref a1), (2, .int r1), (3, .int ((M a0 3) + (2 : Int32)))]) [2, 3, 1, 0] rfl (ok_j_X5_tellShared_58 hW k_a0 k_a1 h)
    · refine rn_icmp_eq_f (tgt := 58) hc7 zd_X5_tellShared_1.1.2.1.1 rfl ?_
      refine rn_iload_n (q := 2) 1 rfl zd_X5_tellShared_1.1.2.1.2 ?_
      refine rn_bipush (v := 111) zd_X5_tellShared_1.1.2.2.1 rfl ?_
      rcases zif_e h with ⟨hc28, h⟩ | ⟨hc28, h⟩
      · refine rn_icmp_eq_t (tgt := 58) hc28 zd_X5_tellShared_1.1.2.2.2 rfl ?_
        exact rn_sub (ls' := [(0, .ref a0), (1, .ref a1), (2, .int r1), (3, .int ((M a0 3) + (2 : Int32)))]) [2, 3, 1, 0] rfl (ok_j_X5_tellShared_58 hW k_a0 k_a1 h)
      · refine rn_icmp_eq_f (tgt := 58) hc28 zd_X5_tellShared_1.1.2.2.2 rfl ?_
        refine rn_iload_n (q := 2) 1 rfl zd_X5_tellShared_1.2.1.1.1 ?_
        refine rn_bipush (v := 112) zd_X5_tellShared_1.2.1.1.2 rfl ?_
        rcases zif_e h with ⟨hc29, h⟩ | ⟨hc29, h⟩
        · refine rn_icmp_eq_t (tgt := 58) hc29 zd_X5_tellShared_1.2.1.2.1 rfl ?_
          exact rn_sub (ls' := [(0, .ref a0), (1, .ref a1), (2, .int r1), (3, .int ((M a0 3) + (2 : Int32)))]) [2, 3, 1, 0] rfl (ok_j_X5_tellShared_58 hW k_a0 k_a1 h)
        · refine rn_icmp_eq_f (tgt := 58) hc29 zd_X5_tellShared_1.2.1.2.1 rfl ?_
          refine rn_aload_n (q := 0) 2 rfl zd_X5_tellShared_1.2.1.2.2 ?_
          refine rn_aload_n (q := 0) 2 rfl zd_X5_tellShared_1.2.2.1.1 ?_
          refine rn_getI zf_X5_39 (Or.inl rfl) k_a0 zd_X5_tellShared_1.2.2.1.2 ?_
          refine rn_iconst (v := 1) zd_X5_tellShared_1.2.2.2.1 rfl ?_
          obtain ⟨M30, h31, h⟩ := zbd_e h
          refine rn_callVv (As := [.int (M4 a0 3), .int (1 : Int32)]) (rest := []) zl_X5_87 zm_X5_failAt ⟨by decide, by decide⟩ (ci := 5) rfl rfl (by decide) k_a0 rfl rfl (Nat.le_of_ble_eq_true rfl) zd_X5_tellShared_1.2.2.2.2 (ok_X5_failAt hW k_a0 h31) ?_
          exact rn_sub (ls' := [(0, .ref a0), (1, .ref a1), (2, .int r1), (3, .int ((M a0 3) + (2 : Int32)))]) [2, 3, 1, 0] rfl (ok_j_X5_tellShared_58 hW k_a0 k_a1 h)
abbrev P_X5_parse_39 (G : zG) (K : zK) (R : zR) (a0 : Nat) (a2 : Nat) (r : Option Value) (S' : zS) (v : Int32 × zM × zL) : Prop := Rn G mt_X5_parse 39 [(0, .ref a0), (2, .ref a2), (3, .int v.1)] [] (v.2.1, v.2.2, R, K) r S'
abbrev Q_X5_parse_39 (G : zG) (K : zK) (R : zR) (a0 : Nat) (a2 : Nat) (r : Option Value) (S' : zS) : (zM × zL) → Prop := (fun e => Rn G mt_X5_parse 245 [(0, .ref a0)] [] (e.1, e.2, R, K) r S')
def j_X5_parse_152 (R : zR) (M : zM) (L : zL) (a0 : Nat) (a2 : Nat) (x3 : Int32) (b0 : Nat) (s1 : Int32) : Option ((Int32 × zM × zL) ⊕ ((zM × zL))) :=
  zck (zbool s1) <|
  zlt (zup M b0 6 s1) fun M32 =>
  some (.inl ((x3 + 1), M32, L))
set_option maxRecDepth 4000 in
theorem ok_j_X5_parse_152 {G : zG} {K : zK} {R : zR} {M : zM} {L : zL} (hW : zWT R K) {a0 : Nat} {a2 : Nat} {x3 : Int32} {b0 : Nat} {s1 : Int32} (k_a0 : K[a0]? = some (5, 10)) (k_a2 : K[a2]? = some (7, 11)) (k_b0 : K[b0]? = some (7, 11)) {r : Option Value} {S' : zS} {x : (Int32 × zM × zL) ⊕ ((zM × zL))} (h : j_X5_parse_152 R M L a0 a2 x3 b0 s1 = some x) (hk : Sum.elim (P_X5_parse_39 G K R a0 a2 r S') (Q_X5_parse_39 G K R a0 a2 r S') x) : Rn G mt_X5_parse 152 [(0, .ref a0), (2, .ref a2), (3, .int x3)] [.int s1, .ref b0] (M, L, R, K) r S' := by
  unfold j_X5_parse_152 at h
  obtain ⟨hc33, h⟩ := zck_e h
  obtain ⟨M32, hM32, h⟩ := zlt_e h
  refine rn_putB (zbool_e hc33) hM32 zf_X5_63 k_b0 zd_X5_parse_3.2.1.1.2 ?_
  refine rn_goto (tgt := 239) zd_X5_parse_3.2.1.2.1 rfl ?_
  refine rn_iinc (v := (x3 + 1)) (ls' := [(3, .int (x3 + 1)), (0, .ref a0), (2, .ref a2)]) 2 rfl rfl (by decide) rfl zd_X5_parse_6.1.1.2.1 ?_
  refine rn_goto (tgt := 39) zd_X5_parse_6.1.1.2.2 rfl ?_
  cases h
  exact rn_sub (ls' := [(0, .ref a0), (2, .ref a2), (3, .int (x3 + 1))]) [1, 2, 0] rfl hk
def j_X5_parse_151 (R : zR) (M : zM) (L : zL) (a0 : Nat) (a2 : Nat) (x3 : Int32) (b0 : Nat) : Option ((Int32 × zM × zL) ⊕ ((zM × zL))) :=
  j_X5_parse_152 R M L a0 a2 x3 b0 (0 : Int32)
set_option maxRecDepth 4000 in
theorem ok_j_X5_parse_151 {G : zG} {K : zK} {R : zR} {M : zM} {L : zL} (hW : zWT R K) {a0 : Nat} {a2 : Nat} {x3 : Int32} {b0 : Nat} (k_a0 : K[a0]? = some (5, 10)) (k_a2 : K[a2]? = some (7, 11)) (k_b0 : K[b0]? = some (7, 11)) {r : Option Value} {S' : zS} {x : (Int32 × zM × zL) ⊕ ((zM × zL))} (h : j_X5_parse_151 R M L a0 a2 x3 b0 = some x) (hk : Sum.elim (P_X5_parse_39 G K R a0 a2 r S') (Q_X5_parse_39 G K R a0 a2 r S') x) : Rn G mt_X5_parse 151 [(0, .ref a0), (2, .ref a2), (3, .int x3)] [.ref b0] (M, L, R, K) r S' := by
  unfold j_X5_parse_151 at h
  refine rn_iconst (v := 0) zd_X5_parse_3.2.1.1.1 rfl ?_
  exact rn_sub (ls' := [(0, .ref a0), (2, .ref a2), (3, .int x3)]) [0, 1, 2] rfl (ok_j_X5_parse_152 hW k_a0 k_a2 k_b0 h hk)
def j_X5_parse_182 (R : zR) (M : zM) (L : zL) (a0 : Nat) (a2 : Nat) (x3 : Int32) (b0 : Nat) (s1 : Int32) : Option ((Int32 × zM × zL) ⊕ ((zM × zL))) :=
  zck (zbool s1) <|
  zlt (zup M b0 7 s1) fun M42 =>
  some (.inl ((x3 + 1), M42, L))
set_option maxRecDepth 4000 in
theorem ok_j_X5_parse_182 {G : zG} {K : zK} {R : zR} {M : zM} {L : zL} (hW : zWT R K) {a0 : Nat} {a2 : Nat} {x3 : Int32} {b0 : Nat} {s1 : Int32} (k_a0 : K[a0]? = some (5, 10)) (k_a2 : K[a2]? = some (7, 11)) (k_b0 : K[b0]? = some (7, 11)) {r : Option Value} {S' : zS} {x : (Int32 × zM × zL) ⊕ ((zM × zL))} (h : j_X5_parse_182 R M L a0 a2 x3 b0 s1 = some x) (hk : Sum.elim (P_X5_parse_39 G K R a0 a2 r S') (Q_X5_parse_39 G K R a0 a2 r S') x) : Rn G mt_X5_parse 182 [(0, .ref a0), (2, .ref a2), (3, .int x3)] [.int s1, .ref b0] (M, L, R, K) r S' := by
  unfold j_X5_parse_182 at h
  obtain ⟨hc43, h⟩ := zck_e h
  obtain ⟨M42, hM42, h⟩ := zlt_e h
  refine rn_putB (zbool_e hc43) hM42 zf_X5_67 k_b0 zd_X5_parse_4.1.2.2.2 ?_
  refine rn_goto (tgt := 239) zd_X5_parse_4.2.1.1.1 rfl ?_
  refine rn_iinc (v := (x3 + 1)) (ls' := [(3, .int (x3 + 1)), (0, .ref a0), (2, .ref a2)]) 2 rfl rfl (by decide) rfl zd_X5_parse_6.1.1.2.1 ?_
  refine rn_goto (tgt := 39) zd_X5_parse_6.1.1.2.2 rfl ?_
  cases h
  exact rn_sub (ls' := [(0, .ref a0), (2, .ref a2), (3, .int (x3 + 1))]) [1, 2, 0] rfl hk
def j_X5_parse_181 (R : zR) (M : zM) (L : zL) (a0 : Nat) (a2 : Nat) (x3 : Int32) (b0 : Nat) : Option ((Int32 × zM × zL) ⊕ ((zM × zL))) :=
  j_X5_parse_182 R M L a0 a2 x3 b0 (0 : Int32)
set_option maxRecDepth 4000 in
theorem ok_j_X5_parse_181 {G : zG} {K : zK} {R : zR} {M : zM} {L : zL} (hW : zWT R K) {a0 : Nat} {a2 : Nat} {x3 : Int32} {b0 : Nat} (k_a0 : K[a0]? = some (5, 10)) (k_a2 : K[a2]? = some (7, 11)) (k_b0 : K[b0]? = some (7, 11)) {r : Option Value} {S' : zS} {x : (Int32 × zM × zL) ⊕ ((zM × zL))} (h : j_X5_parse_181 R M L a0 a2 x3 b0 = some x) (hk : Sum.elim (P_X5_parse_39 G K R a0 a2 r S') (Q_X5_parse_39 G K R a0 a2 r S') x) : Rn G mt_X5_parse 181 [(0, .ref a0), (2, .ref a2), (3, .int x3)] [.ref b0] (M, L, R, K) r S' := by
  unfold j_X5_parse_181 at h
  refine rn_iconst (v := 0) zd_X5_parse_4.1.2.2.1 rfl ?_
  exact rn_sub (ls' := [(0, .ref a0), (2, .ref a2), (3, .int x3)]) [0, 1, 2] rfl (ok_j_X5_parse_182 hW k_a0 k_a2 k_b0 h hk)
def b_X5_parse_39 (R : zR) (M : zM) (L : zL) (a0 : Nat) (a2 : Nat) (x3 : Int32) : Option ((Int32 × zM × zL) ⊕ ((zM × zL))) :=
  if (400 : Int32) < x3 then (
    some (.inr (M, L))
  ) else (
    if (M a0 6) = 0 then (
      zbd (f_X9_kindAt R M (R a0 0) (M a0 3)) fun r13 =>
      if r13 = 0 then (
        some (.inr (M, L))
      ) else (
        zbd (f_X9_kindAt R M (R a0 0) (M a0 3)) fun r16 =>
        if r16 = 100 then (
          zbd2 (f_X5_tellHouse R M L a0 a2) fun M25 L26 =>
          some (.inl ((x3 + 1), M25, L26))
        ) else (
          if r16 = 101 then (
            zbd2 (f_X5_take R M a0 (101 : Int32)) fun r28 M29 =>
            if r28 = 0 then (
              j_X5_parse_151 R M29 L a0 a2 x3 a2
            ) else (
              zbd2 (f_X5_take R M29 a0 (59 : Int32)) fun r34 M35 =>
              if r34 = 0 then (
                j_X5_parse_151 R M35 L a0 a2 x3 a2
              ) else (
                j_X5_parse_152 R M35 L a0 a2 x3 a2 (1 : Int32)
              )
            )
          ) else (
            if r16 = 102 then (
              zbd2 (f_X5_take R M a0 (102 : Int32)) fun r38 M39 =>
              if r38 = 0 then (
                j_X5_parse_181 R M39 L a0 a2 x3 a2
              ) else (
                zbd2 (f_X5_take R M39 a0 (59 : Int32)) fun r44 M45 =>
                if r44 = 0 then (
                  j_X5_parse_181 R M45 L a0 a2 x3 a2
                ) else (
                  j_X5_parse_182 R M45 L a0 a2 x3 a2 (1 : Int32)
                )
              )
            ) else (
              if r16 = 103 then (
                zbd (f_X5_tellLaw R M L a0 (103 : Int32) (R a2 0)) fun M48 =>
                some (.inl ((x3 + 1), M48, L))
              ) else (
                if r16 = 104 then (
                  zbd (f_X5_tellLaw R M L a0 (104 : Int32) (R a2 1)) fun M50 =>
                  some (.inl ((x3 + 1), M50, L))
                ) else (
                  if r16 = 105 then (
                    zbd (f_X5_tellShared R M L a0 a2) fun M52 =>
                    some (.inl ((x3 + 1), M52, L))
                  ) else (
                    if r16 = 106 then (
                      zbd (f_X5_tellSeed R M L a0 a2) fun M54 =>
                      some (.inl ((x3 + 1), M54, L))
                    ) else (
                      zbd (f_X5_failAt R M a0 (M a0 3) (1 : Int32)) fun M56 =>
                      some (.inl ((x3 + 1), M56, L))
                    )
                  )
                )
              )
            )
          )
        )
      )
    ) else (
      some (.inr (M, L))
    )
  )
set_option maxRecDepth 4000 in
theorem ok_b_X5_parse_39 {G : zG} {K : zK} {R : zR} {M : zM} {L : zL} (hW : zWT R K) {a0 : Nat} {a2 : Nat} {x3 : Int32} (k_a0 : K[a0]? = some (5, 10)) (k_a2 : K[a2]? = some (7, 11)) {r : Option Value} {S' : zS} {x : (Int32 × zM × zL) ⊕ ((zM × zL))} (h : b_X5_parse_39 R M L a0 a2 x3 = some x) (hk : Sum.elim (P_X5_parse_39 G K R a0 a2 r S') (Q_X5_parse_39 G K R a0 a2 r S') x) : P_X5_parse_39 G K R a0 a2 r S' (x3, M, L) := by
  show Rn G mt_X5_parse 39 [(0, .ref a0), (2, .ref a2), (3, .int x3)] [] (M, L, R, K) r S'
  unfold b_X5_parse_39 at h
  refine rn_iload_n (q := 3) 2 rfl zd_X5_parse_1.1.2.2.2 ?_
  refine rn_sipush (v := 400) zd_X5_parse_1.2.1.1.1 rfl ?_
  rcases zif_e h with ⟨hc11, h⟩ | ⟨hc11, h⟩
  · refine rn_icmp_gt_t (tgt := 245) hc11 zd_X5_parse_1.2.1.1.2 rfl ?_
    cases h
    exact rn_sub (ls' := [(0, .ref a0)]) [0] rfl hk
  · refine rn_icmp_gt_f (tgt := 245) hc11 zd_X5_parse_1.2.1.1.2 rfl ?_
    refine rn_aload_n (q := 0) 0 rfl zd_X5_parse_1.2.1.2.1 ?_
    refine rn_getI zf_X5_42 (Or.inl rfl) k_a0 zd_X5_parse_1.2.1.2.2 ?_
    rcases zif_e h with ⟨hc12, h⟩ | ⟨hc12, h⟩
    · refine rn_if_ne_f (tgt := 245) hc12 zd_X5_parse_1.2.2.1.1 rfl ?_
      refine rn_aload_n (q := 0) 0 rfl zd_X5_parse_1.2.2.1.2 ?_
      refine rn_getR zf_X5_12 (Or.inl ⟨_, rfl⟩) k_a0 (zx_5_0 hW k_a0) zd_X5_parse_1.2.2.2.1 ?_
      refine rn_aload_n (q := 0) 0 rfl zd_X5_parse_1.2.2.2.2 ?_
      refine rn_getI zf_X5_39 (Or.inl rfl) k_a0 zd_X5_parse_2.1.1.1.1 ?_
      obtain ⟨r13, h14, h⟩ := zbd_e h
      refine rn_callVi (As := [.int (M a0 3)]) (rest := []) zl_X5_51 zm_X9_kindAt ⟨by decide, by decide⟩ (ci := 9) rfl rfl (by decide) (zw_5_0 hW k_a0) rfl rfl (Nat.le_of_ble_eq_true rfl) zd_X5_parse_2.1.1.1.2 (ok_X9_kindAt hW (zw_5_0 hW k_a0) h14) ?_
      rcases zif_e h with ⟨hc15, h⟩ | ⟨hc15, h⟩
      · refine rn_if_eq_t (tgt := 245) hc15 zd_X5_parse_2.1.1.2.1 rfl ?_
        cases h
        exact rn_sub (ls' := [(0, .ref a0)]) [0] rfl hk
      · refine rn_if_eq_f (tgt := 245) hc15 zd_X5_parse_2.1.1.2.1 rfl ?_
        refine rn_aload_n (q := 0) 0 rfl zd_X5_parse_2.1.1.2.2 ?_
        refine rn_getR zf_X5_12 (Or.inl ⟨_, rfl⟩) k_a0 (zx_5_0 hW k_a0) zd_X5_parse_2.1.2.1.1 ?_
        refine rn_aload_n (q := 0) 0 rfl zd_X5_parse_2.1.2.1.2 ?_
        refine rn_getI zf_X5_39 (Or.inl rfl) k_a0 zd_X5_parse_2.1.2.2.1 ?_
        obtain ⟨r16, h17, h⟩ := zbd_e h
        refine rn_callVi (As := [.int (M a0 3)]) (rest := []) zl_X5_51 zm_X9_kindAt ⟨by decide, by decide⟩ (ci := 9) rfl rfl (by decide) (zw_5_0 hW k_a0) rfl rfl (Nat.le_of_ble_eq_true rfl) zd_X5_parse_2.1.2.2.2 (ok_X9_kindAt hW (zw_5_0 hW k_a0) h17) ?_
        rcases zif_e h with ⟨hc18, h⟩ | ⟨hc18, h⟩
        · refine rn_tblIn (v := 100) (tgt := 120) zd_X5_parse_2.2.1.1.1 (by rw [hc18]; rfl) (by decide) (by decide) rfl rfl ?_
          refine rn_aload_n (q := 0) 0 rfl zd_X5_parse_2.2.1.1.2 ?_
          refine rn_aload_n (q := 2) 1 rfl zd_X5_parse_2.2.1.2.1 ?_
          obtain ⟨M25, L26, h27, h⟩ := zbd2_e h
          refine rn_callVv (As := [.ref a2]) (rest := []) zl_X5_55 zm_X5_tellHouse ⟨by decide, by decide⟩ (ci := 5) rfl rfl (by decide) k_a0 rfl rfl (Nat.le_of_ble_eq_true rfl) zd_X5_parse_2.2.1.2.2 (ok_X5_tellHouse hW k_a0 k_a2 h27) ?_
          refine rn_goto (tgt := 239) zd_X5_parse_2.2.2.1.1 rfl ?_
          refine rn_iinc (v := (x3 + 1)) (ls' := [(3, .int (x3 + 1)), (0, .ref a0), (2, .ref a2)]) 2 rfl rfl (by decide) rfl zd_X5_parse_6.1.1.2.1 ?_
          refine rn_goto (tgt := 39) zd_X5_parse_6.1.1.2.2 rfl ?_
          cases h
          exact rn_sub (ls' := [(0, .ref a0), (2, .ref a2), (3, .int (x3 + 1))]) [1, 2, 0] rfl hk
        · rcases zif_e h with ⟨hc19, h⟩ | ⟨hc19, h⟩
          · refine rn_tblIn (v := 101) (tgt := 128) zd_X5_parse_2.2.1.1.1 (by rw [hc19]; rfl) (by decide) (by decide) rfl rfl ?_
            refine rn_aload_n (q := 2) 1 rfl zd_X5_parse_2.2.2.1.2 ?_
            refine rn_aload_n (q := 0) 0 rfl zd_X5_parse_2.2.2.2.1 ?_
            refine rn_bipush (v := 101) zd_X5_parse_2.2.2.2.2 rfl ?_
            obtain ⟨r28, M29, h30, h⟩ := zbd2_e h
            refine rn_callVi (As := [.int (101 : Int32)]) (rest := [.ref a2]) zl_X5_59 zm_X5_take ⟨by decide, by decide⟩ (ci := 5) rfl rfl (by decide) k_a0 rfl rfl (Nat.le_of_ble_eq_true rfl) zd_X5_parse_3.1.1.1.1 (ok_X5_take hW k_a0 h30) ?_
            rcases zif_e h with ⟨hc31, h⟩ | ⟨hc31, h⟩
            · refine rn_if_eq_t (tgt := 151) hc31 zd_X5_parse_3.1.1.1.2 rfl ?_
              exact rn_sub (ls' := [(0, .ref a0), (2, .ref a2), (3, .int x3)]) [0, 1, 2] rfl (ok_j_X5_parse_151 hW k_a0 k_a2 k_a2 h hk)
            · refine rn_if_eq_f (tgt := 151) hc31 zd_X5_parse_3.1.1.1.2 rfl ?_
              refine rn_aload_n (q := 0) 0 rfl zd_X5_parse_3.1.1.2.1 ?_
              refine rn_bipush (v := 59) zd_X5_parse_3.1.1.2.2 rfl ?_
              obtain ⟨r34, M35, h36, h⟩ := zbd2_e h
              refine rn_callVi (As := [.int (59 : Int32)]) (rest := [.ref a2]) zl_X5_59 zm_X5_take ⟨by decide, by decide⟩ (ci := 5) rfl rfl (by decide) k_a0 rfl rfl (Nat.le_of_ble_eq_true rfl) zd_X5_parse_3.1.2.1.1 (ok_X5_take hW k_a0 h36) ?_
              rcases zif_e h with ⟨hc37, h⟩ | ⟨hc37, h⟩
              · refine rn_if_eq_t (tgt := 151) hc37 zd_X5_parse_3.1.2.1.2 rfl ?_
                exact rn_sub (ls' := [(0, .ref a0), (2, .ref a2), (3, .int x3)]) [0, 1, 2] rfl (ok_j_X5_parse_151 hW k_a0 k_a2 k_a2 h hk)
              · refine rn_if_eq_f (tgt := 151) hc37 zd_X5_parse_3.1.2.1.2 rfl ?_
                refine rn_iconst (v := 1) zd_X5_parse_3.1.2.2.1 rfl ?_
                refine rn_goto (tgt := 152) zd_X5_parse_3.1.2.2.2 rfl ?_
                exact rn_sub (ls' := [(0, .ref a0), (2, .ref a2), (3, .int x3)]) [0, 1, 2] rfl (ok_j_X5_parse_152 hW k_a0 k_a2 k_a2 h hk)
          · rcases zif_e h with ⟨hc20, h⟩ | ⟨hc20, h⟩
            · refine rn_tblIn (v := 102) (tgt := 158) zd_X5_parse_2.2.1.1.1 (by rw [hc20]; rfl) (by decide) (by decide) rfl rfl ?_
              refine rn_aload_n (q := 2) 1 rfl zd_X5_parse_3.2.1.2.2 ?_
              refine rn_aload_n (q := 0) 0 rfl zd_X5_parse_3.2.2.1.1 ?_
              refine rn_bipush (v := 102) zd_X5_parse_3.2.2.1.2 rfl ?_
              obtain ⟨r38, M39, h40, h⟩ := zbd2_e h
              refine rn_callVi (As := [.int (102 : Int32)]) (rest := [.ref a2]) zl_X5_59 zm_X5_take ⟨by decide, by decide⟩ (ci := 5) rfl rfl (by decide) k_a0 rfl rfl (Nat.le_of_ble_eq_true rfl) zd_X5_parse_3.2.2.2.1 (ok_X5_take hW k_a0 h40) ?_
              rcases zif_e h with ⟨hc41, h⟩ | ⟨hc41, h⟩
              · refine rn_if_eq_t (tgt := 181) hc41 zd_X5_parse_3.2.2.2.2 rfl ?_
                exact rn_sub (ls' := [(0, .ref a0), (2, .ref a2), (3, .int x3)]) [0, 1, 2] rfl (ok_j_X5_parse_181 hW k_a0 k_a2 k_a2 h hk)
              · refine rn_if_eq_f (tgt := 181) hc41 zd_X5_parse_3.2.2.2.2 rfl ?_
                refine rn_aload_n (q := 0) 0 rfl zd_X5_parse_4.1.1.1.1 ?_
                refine rn_bipush (v := 59) zd_X5_parse_4.1.1.1.2 rfl ?_
                obtain ⟨r44, M45, h46, h⟩ := zbd2_e h
                refine rn_callVi (As := [.int (59 : Int32)]) (rest := [.ref a2]) zl_X5_59 zm_X5_take ⟨by decide, by decide⟩ (ci := 5) rfl rfl (by decide) k_a0 rfl rfl (Nat.le_of_ble_eq_true rfl) zd_X5_parse_4.1.1.2.1 (ok_X5_take hW k_a0 h46) ?_
                rcases zif_e h with ⟨hc47, h⟩ | ⟨hc47, h⟩
                · refine rn_if_eq_t (tgt := 181) hc47 zd_X5_parse_4.1.1.2.2 rfl ?_
                  exact rn_sub (ls' := [(0, .ref a0), (2, .ref a2), (3, .int x3)]) [0, 1, 2] rfl (ok_j_X5_parse_181 hW k_a0 k_a2 k_a2 h hk)
                · refine rn_if_eq_f (tgt := 181) hc47 zd_X5_parse_4.1.1.2.2 rfl ?_
                  refine rn_iconst (v := 1) zd_X5_parse_4.1.2.1.1 rfl ?_
                  refine rn_goto (tgt := 182) zd_X5_parse_4.1.2.1.2 rfl ?_
                  exact rn_sub (ls' := [(0, .ref a0), (2, .ref a2), (3, .int x3)]) [0, 1, 2] rfl (ok_j_X5_parse_182 hW k_a0 k_a2 k_a2 h hk)
            · rcases zif_e h with ⟨hc21, h⟩ | ⟨hc21, h⟩
              · refine rn_tblIn (v := 103) (tgt := 188) zd_X5_parse_2.2.1.1.1 (by rw [hc21]; rfl) (by decide) (by decide) rfl rfl ?_
                refine rn_aload_n (q := 0) 0 rfl zd_X5_parse_4.2.1.1.2 ?_
                refine rn_bipush (v := 103) zd_X5_parse_4.2.1.2.1 rfl ?_
                refine rn_aload_n (q := 2) 1 rfl zd_X5_parse_4.2.1.2.2 ?_
                refine rn_getR zf_X5_70 (Or.inl ⟨_, rfl⟩) k_a2 (zx_7_0 hW k_a2) zd_X5_parse_4.2.2.1.1 ?_
                obtain ⟨M48, h49, h⟩ := zbd_e h
                refine rn_callVv (As := [.int (103 : Int32), .ref (R a2 0)]) (rest := []) zl_X5_74 zm_X5_tellLaw ⟨by decide, by decide⟩ (ci := 5) rfl rfl (by decide) k_a0 rfl rfl (Nat.le_of_ble_eq_true rfl) zd_X5_parse_4.2.2.1.2 (ok_X5_tellLaw hW k_a0 (zw_7_0 hW k_a2) h49) ?_
                refine rn_goto (tgt := 239) zd_X5_parse_4.2.2.2.1 rfl ?_
                refine rn_iinc (v := (x3 + 1)) (ls' := [(3, .int (x3 + 1)), (0, .ref a0), (2, .ref a2)]) 2 rfl rfl (by decide) rfl zd_X5_parse_6.1.1.2.1 ?_
                refine rn_goto (tgt := 39) zd_X5_parse_6.1.1.2.2 rfl ?_
                cases h
                exact rn_sub (ls' := [(0, .ref a0), (2, .ref a2), (3, .int (x3 + 1))]) [1, 2, 0] rfl hk
              · rcases zif_e h with ⟨hc22, h⟩ | ⟨hc22, h⟩
                · refine rn_tblIn (v := 104) (tgt := 201) zd_X5_parse_2.2.1.1.1 (by rw [hc22]; rfl) (by decide) (by decide) rfl rfl ?_
                  refine rn_aload_n (q := 0) 0 rfl zd_X5_parse_4.2.2.2.2 ?_
                  refine rn_bipush (v := 104) zd_X5_parse_5.1.1.1.1 rfl ?_
                  refine rn_aload_n (q := 2) 1 rfl zd_X5_parse_5.1.1.1.2 ?_
                  refine rn_getR zf_X5_78 (Or.inl ⟨_, rfl⟩) k_a2 (zx_7_1 hW k_a2) zd_X5_parse_5.1.1.2.1 ?_
                  obtain ⟨M50, h51, h⟩ := zbd_e h
                  refine rn_callVv (As := [.int (104 : Int32), .ref (R a2 1)]) (rest := []) zl_X5_74 zm_X5_tellLaw ⟨by decide, by decide⟩ (ci := 5) rfl rfl (by decide) k_a0 rfl rfl (Nat.le_of_ble_eq_true rfl) zd_X5_parse_5.1.1.2.2 (ok_X5_tellLaw hW k_a0 (zw_7_1 hW k_a2) h51) ?_
                  refine rn_goto (tgt := 239) zd_X5_parse_5.1.2.1.1 rfl ?_
                  refine rn_iinc (v := (x3 + 1)) (ls' := [(3, .int (x3 + 1)), (0, .ref a0), (2, .ref a2)]) 2 rfl rfl (by decide) rfl zd_X5_parse_6.1.1.2.1 ?_
                  refine rn_goto (tgt := 39) zd_X5_parse_6.1.1.2.2 rfl ?_
                  cases h
                  exact rn_sub (ls' := [(0, .ref a0), (2, .ref a2), (3, .int (x3 + 1))]) [1, 2, 0] rfl hk
                · rcases zif_e h with ⟨hc23, h⟩ | ⟨hc23, h⟩
                  · refine rn_tblIn (v := 105) (tgt := 214) zd_X5_parse_2.2.1.1.1 (by rw [hc23]; rfl) (by decide) (by decide) rfl rfl ?_
                    refine rn_aload_n (q := 0) 0 rfl zd_X5_parse_5.1.2.1.2 ?_
                    refine rn_aload_n (q := 2) 1 rfl zd_X5_parse_5.1.2.2.1 ?_
                    obtain ⟨M52, h53, h⟩ := zbd_e h
                    refine rn_callVv (As := [.ref a2]) (rest := []) zl_X5_81 zm_X5_tellShared ⟨by decide, by decide⟩ (ci := 5) rfl rfl (by decide) k_a0 rfl rfl (Nat.le_of_ble_eq_true rfl) zd_X5_parse_5.1.2.2.2 (ok_X5_tellShared hW k_a0 k_a2 h53) ?_
                    refine rn_goto (tgt := 239) zd_X5_parse_5.2.1.1.1 rfl ?_
                    refine rn_iinc (v := (x3 + 1)) (ls' := [(3, .int (x3 + 1)), (0, .ref a0), (2, .ref a2)]) 2 rfl rfl (by decide) rfl zd_X5_parse_6.1.1.2.1 ?_
                    refine rn_goto (tgt := 39) zd_X5_parse_6.1.1.2.2 rfl ?_
                    cases h
                    exact rn_sub (ls' := [(0, .ref a0), (2, .ref a2), (3, .int (x3 + 1))]) [1, 2, 0] rfl hk
                  · rcases zif_e h with ⟨hc24, h⟩ | ⟨hc24, h⟩
                    · refine rn_tblIn (v := 106) (tgt := 222) zd_X5_parse_2.2.1.1.1 (by rw [hc24]; rfl) (by decide) (by decide) rfl rfl ?_
                      refine rn_aload_n (q := 0) 0 rfl zd_X5_parse_5.2.1.1.2 ?_
                      refine rn_aload_n (q := 2) 1 rfl zd_X5_parse_5.2.1.2.1 ?_
                      obtain ⟨M54, h55, h⟩ := zbd_e h
                      refine rn_callVv (As := [.ref a2]) (rest := []) zl_X5_84 zm_X5_tellSeed ⟨by decide, by decide⟩ (ci := 5) rfl rfl (by decide) k_a0 rfl rfl (Nat.le_of_ble_eq_true rfl) zd_X5_parse_5.2.1.2.2 (ok_X5_tellSeed hW k_a0 k_a2 h55) ?_
                      refine rn_goto (tgt := 239) zd_X5_parse_5.2.2.1.1 rfl ?_
                      refine rn_iinc (v := (x3 + 1)) (ls' := [(3, .int (x3 + 1)), (0, .ref a0), (2, .ref a2)]) 2 rfl rfl (by decide) rfl zd_X5_parse_6.1.1.2.1 ?_
                      refine rn_goto (tgt := 39) zd_X5_parse_6.1.1.2.2 rfl ?_
                      cases h
                      exact rn_sub (ls' := [(0, .ref a0), (2, .ref a2), (3, .int (x3 + 1))]) [1, 2, 0] rfl hk
                    · have ht : r16.toInt < 100 ∨ 106 < r16.toInt := by
                        have q0 := zto (n := 100) hc18 rfl
                        have q1 := zto (n := 101) hc19 rfl
                        have q2 := zto (n := 102) hc20 rfl
                        have q3 := zto (n := 103) hc21 rfl
                        have q4 := zto (n := 104) hc22 rfl
                        have q5 := zto (n := 105) hc23 rfl
                        have q6 := zto (n := 106) hc24 rfl
                        omega
                      refine rn_tblOut (tgt := 230) zd_X5_parse_2.2.1.1.1 ht rfl ?_
                      refine rn_aload_n (q := 0) 0 rfl zd_X5_parse_5.2.2.1.2 ?_
                      refine rn_aload_n (q := 0) 0 rfl zd_X5_parse_5.2.2.2.1 ?_
                      refine rn_getI zf_X5_39 (Or.inl rfl) k_a0 zd_X5_parse_5.2.2.2.2 ?_
                      refine rn_iconst (v := 1) zd_X5_parse_6.1.1.1.1 rfl ?_
                      obtain ⟨M56, h57, h⟩ := zbd_e h
                      refine rn_callVv (As := [.int (M a0 3), .int (1 : Int32)]) (rest := []) zl_X5_87 zm_X5_failAt ⟨by decide, by decide⟩ (ci := 5) rfl rfl (by decide) k_a0 rfl rfl (Nat.le_of_ble_eq_true rfl) zd_X5_parse_6.1.1.1.2 (ok_X5_failAt hW k_a0 h57) ?_
                      refine rn_iinc (v := (x3 + 1)) (ls' := [(3, .int (x3 + 1)), (0, .ref a0), (2, .ref a2)]) 2 rfl rfl (by decide) rfl zd_X5_parse_6.1.1.2.1 ?_
                      refine rn_goto (tgt := 39) zd_X5_parse_6.1.1.2.2 rfl ?_
                      cases h
                      exact rn_sub (ls' := [(0, .ref a0), (2, .ref a2), (3, .int (x3 + 1))]) [1, 2, 0] rfl hk
    · refine rn_if_ne_t (tgt := 245) hc12 zd_X5_parse_1.2.2.1.1 rfl ?_
      cases h
      exact rn_sub (ls' := [(0, .ref a0)]) [0] rfl hk
def f_X5_parse (R : zR) (M : zM) (L : zL) (a0 : Nat) (a1 : Nat) (a2 : Nat) : Option (Int32 × zM × zL) :=
  zbd2 (f_X9_scan R M L (R a0 0) a1) fun M1 L2 =>
  zbd (f_X7_clear R M1 a2) fun M4 =>
  zlt (zup M4 a0 3 (0 : Int32)) fun M6 =>
  zlt (zup M6 a0 6 (0 : Int32)) fun M7 =>
  zlt (zup M7 a0 7 (-1 : Int32)) fun M8 =>
  zlt (zup M8 a0 8 (0 : Int32)) fun M9 =>
  zlt (zup M9 a0 9 (-1 : Int32)) fun M10 =>
  zbd (zloop zN (fun v => b_X5_parse_39 R v.2.1 v.2.2 a0 a2 v.1) ((0 : Int32), M10, L2)) fun e58 =>
  if (e58.1 a0 6) = 0 then (
    zlt (zup e58.1 a0 7 (e58.1 a0 9)) fun M60 =>
    some ((M60 a0 8), M60, e58.2)
  ) else (
    some ((e58.1 a0 6), e58.1, e58.2)
  )
set_option maxRecDepth 4000 in
theorem ok_X5_parse {G : zG} {K : zK} {R : zR} {M : zM} {L : zL} (hW : zWT R K) {a0 : Nat} {a1 : Nat} {a2 : Nat} (k_a0 : K[a0]? = some (5, 10)) (k_a1 : K[a1]? = some (8, 2)) (k_a2 : K[a2]? = some (7, 11)) {r' : Int32} {M' : zM} {L' : zL} (h : f_X5_parse R M L a0 a1 a2 = some (r', M', L')) : Rm G mt_X5_parse [.ref a0, .ref a1, .ref a2] (M, L, R, K) (some (.int r')) (M', L', R, K) := by
  refine rm_rn rfl rfl (Nat.le_of_ble_eq_true rfl) ?_
  show Rn G mt_X5_parse 0 [(0, .ref a0), (1, .ref a1), (2, .ref a2)] [] (M, L, R, K) (some (.int r')) (M', L', R, K)
  unfold f_X5_parse at h
  refine rn_aload_n (q := 0) 0 rfl zd_X5_parse_0.1.1.1.1 ?_
  refine rn_getR zf_X5_12 (Or.inl ⟨_, rfl⟩) k_a0 (zx_5_0 hW k_a0) zd_X5_parse_0.1.1.1.2 ?_
  refine rn_aload_n (q := 1) 1 rfl zd_X5_parse_0.1.1.2.1 ?_
  obtain ⟨M1, L2, h3, h⟩ := zbd2_e h
  refine rn_callVv (As := [.ref a1]) (rest := []) zl_X5_30 zm_X9_scan ⟨by decide, by decide⟩ (ci := 9) rfl rfl (by decide) (zw_5_0 hW k_a0) rfl rfl (Nat.le_of_ble_eq_true rfl) zd_X5_parse_0.1.1.2.2 (ok_X9_scan hW (zw_5_0 hW k_a0) k_a1 h3) ?_
  refine rn_aload_n (q := 2) 2 rfl zd_X5_parse_0.1.2.1.1 ?_
  obtain ⟨M4, h5, h⟩ := zbd_e h
  refine rn_callVv (As := []) (rest := []) zl_X5_34 zm_X7_clear ⟨by decide, by decide⟩ (ci := 7) rfl rfl (by decide) k_a2 rfl rfl (Nat.le_of_ble_eq_true rfl) zd_X5_parse_0.1.2.1.2 (ok_X7_clear hW k_a2 h5) ?_
  refine rn_aload_n (q := 0) 0 rfl zd_X5_parse_0.1.2.2.1 ?_
  refine rn_iconst (v := 0) zd_X5_parse_0.1.2.2.2 rfl ?_
  obtain ⟨M6, hM6, h⟩ := zlt_e h
  refine rn_putI hM6 zf_X5_39 k_a0 zd_X5_parse_0.2.1.1.1 ?_
  refine rn_aload_n (q := 0) 0 rfl zd_X5_parse_0.2.1.1.2 ?_
  refine rn_iconst (v := 0) zd_X5_parse_0.2.1.2.1 rfl ?_
  obtain ⟨M7, hM7, h⟩ := zlt_e h
  refine rn_putI hM7 zf_X5_42 k_a0 zd_X5_parse_0.2.1.2.2 ?_
  refine rn_aload_n (q := 0) 0 rfl zd_X5_parse_0.2.2.1.1 ?_
  refine rn_iconst (v := -1) zd_X5_parse_0.2.2.1.2 rfl ?_
  obtain ⟨M8, hM8, h⟩ := zlt_e h
  refine rn_putI hM8 zf_X5_26 k_a0 zd_X5_parse_0.2.2.2.1 ?_
  refine rn_aload_n (q := 0) 0 rfl zd_X5_parse_0.2.2.2.2 ?_
  refine rn_iconst (v := 0) zd_X5_parse_1.1.1.1.1 rfl ?_
  obtain ⟨M9, hM9, h⟩ := zlt_e h
  refine rn_putI hM9 zf_X5_45 k_a0 zd_X5_parse_1.1.1.1.2 ?_
  refine rn_aload_n (q := 0) 0 rfl zd_X5_parse_1.1.1.2.1 ?_
  refine rn_iconst (v := -1) zd_X5_parse_1.1.1.2.2 rfl ?_
  obtain ⟨M10, hM10, h⟩ := zlt_e h
  refine rn_putI hM10 zf_X5_48 k_a0 zd_X5_parse_1.1.2.1.1 ?_
  refine rn_iconst (v := 0) zd_X5_parse_1.1.2.1.2 rfl ?_
  refine rn_istore_n (q := 3) (ls' := [(3, .int (0 : Int32)), (0, .ref a0), (1, .ref a1), (2, .ref a2)]) (by decide) rfl zd_X5_parse_1.1.2.2.1 ?_
  obtain ⟨e58, he58, h⟩ := zbd_e h
  refine rn_sub (ls' := [(0, .ref a0), (2, .ref a2), (3, .int (0 : Int32))]) [1, 3, 0] rfl (zloop_ok (P := P_X5_parse_39 G K R a0 a2 (some (.int r')) (M', L', R, K)) (Q := Q_X5_parse_39 G K R a0 a2 (some (.int r')) (M', L', R, K)) (fun v x hx hq => ok_b_X5_parse_39 hW k_a0 k_a2 hx hq) _ _ _ he58 ?_)
  show Rn G mt_X5_parse 245 [(0, .ref a0)] [] (e58.1, e58.2, R, K) (some (.int r')) (M', L', R, K)
  refine rn_aload_n (q := 0) 0 rfl zd_X5_parse_6.1.2.1.1 ?_
  refine rn_getI zf_X5_42 (Or.inl rfl) k_a0 zd_X5_parse_6.1.2.1.2 ?_
  rcases zif_e h with ⟨hc59, h⟩ | ⟨hc59, h⟩
  · refine rn_if_eq_t (tgt := 257) hc59 zd_X5_parse_6.1.2.2.1 rfl ?_
    refine rn_aload_n (q := 0) 0 rfl zd_X5_parse_6.2.1.2.1 ?_
    refine rn_aload_n (q := 0) 0 rfl zd_X5_parse_6.2.1.2.2 ?_
    refine rn_getI zf_X5_48 (Or.inl rfl) k_a0 zd_X5_parse_6.2.2.1.1 ?_
    obtain ⟨M60, hM60, h⟩ := zlt_e h
    refine rn_putI hM60 zf_X5_26 k_a0 zd_X5_parse_6.2.2.1.2 ?_
    refine rn_aload_n (q := 0) 0 rfl zd_X5_parse_6.2.2.2.1 ?_
    refine rn_getI zf_X5_45 (Or.inl rfl) k_a0 zd_X5_parse_6.2.2.2.2 ?_
    cases h
    exact rn_iret zd_X5_parse_7 rfl
  · refine rn_if_eq_f (tgt := 257) hc59 zd_X5_parse_6.1.2.2.1 rfl ?_
    refine rn_aload_n (q := 0) 0 rfl zd_X5_parse_6.1.2.2.2 ?_
    refine rn_getI zf_X5_42 (Or.inl rfl) k_a0 zd_X5_parse_6.2.1.1.1 ?_
    cases h
    exact rn_iret zd_X5_parse_6.2.1.1.2 rfl
def f_X10_clear (M : zM) (a0 : Nat) : Option (zM) :=
  zlt (zup M a0 6 (0 : Int32)) fun M1 =>
  some M1
set_option maxRecDepth 4000 in
theorem ok_X10_clear {G : zG} {K : zK} {R : zR} {M : zM} {L : zL} (hW : zWT R K) {a0 : Nat} (k_a0 : K[a0]? = some (10, 11)) {M' : zM} (h : f_X10_clear M a0 = some M') : Rm G mt_X10_clear [.ref a0] (M, L, R, K) none (M', L, R, K) := by
  refine rm_rn rfl rfl (Nat.le_of_ble_eq_true rfl) ?_
  show Rn G mt_X10_clear 0 [(0, .ref a0)] [] (M, L, R, K) none (M', L, R, K)
  unfold f_X10_clear at h
  refine rn_aload_n (q := 0) 0 rfl zd_X10_clear_0.1.1 ?_
  refine rn_iconst (v := 0) zd_X10_clear_0.1.2 rfl ?_
  obtain ⟨M1, hM1, h⟩ := zlt_e h
  refine rn_putI hM1 zf_X10_34 k_a0 zd_X10_clear_0.2.1 ?_
  cases h
  exact rn_vret zd_X10_clear_0.2.2 rfl
def f_X10_add (R : zR) (M : zM) (a0 : Nat) (x1 : Int32) (x2 : Int32) : Option (Int32 × zM) :=
  if (M a0 6) < 0 then (
    some ((-1 : Int32), M)
  ) else (
    if (M a0 6) < (20 : Int32) then (
      zck (zin (M a0 6) 20) <|
      zlt (zup M (R a0 0) (ztn (M a0 6)) x1) fun M4 =>
      zck (zin (M4 a0 6) 20) <|
      zlt (zup M4 (R a0 1) (ztn (M4 a0 6)) x2) fun M6 =>
      zlt (zup M6 a0 6 ((M6 a0 6) + (1 : Int32))) fun M7 =>
      some (((M7 a0 6) - (1 : Int32)), M7)
    ) else (
      some ((-1 : Int32), M)
    )
  )
set_option maxRecDepth 4000 in
theorem ok_X10_add {G : zG} {K : zK} {R : zR} {M : zM} {L : zL} (hW : zWT R K) {a0 : Nat} {x1 : Int32} {x2 : Int32} (k_a0 : K[a0]? = some (10, 11)) {r' : Int32} {M' : zM} (h : f_X10_add R M a0 x1 x2 = some (r', M')) : Rm G mt_X10_add [.ref a0, .int x1, .int x2] (M, L, R, K) (some (.int r')) (M', L, R, K) := by
  refine rm_rn rfl rfl (Nat.le_of_ble_eq_true rfl) ?_
  show Rn G mt_X10_add 0 [(0, .ref a0), (1, .int x1), (2, .int x2)] [] (M, L, R, K) (some (.int r')) (M', L, R, K)
  unfold f_X10_add at h
  refine rn_aload_n (q := 0) 0 rfl zd_X10_add_0.1.1.1.1 ?_
  refine rn_getI zf_X10_34 (Or.inl rfl) k_a0 zd_X10_add_0.1.1.1.2 ?_
  rcases zif_e h with ⟨hc1, h⟩ | ⟨hc1, h⟩
  · refine rn_if_lt_t (tgt := 16) hc1 zd_X10_add_0.1.1.2.1 rfl ?_
    refine rn_iconst (v := -1) zd_X10_add_0.1.2.2.2 rfl ?_
    cases h
    exact rn_iret zd_X10_add_0.2.1.1.1 rfl
  · refine rn_if_lt_f (tgt := 16) hc1 zd_X10_add_0.1.1.2.1 rfl ?_
    refine rn_aload_n (q := 0) 0 rfl zd_X10_add_0.1.1.2.2 ?_
    refine rn_getI zf_X10_34 (Or.inl rfl) k_a0 zd_X10_add_0.1.2.1.1 ?_
    refine rn_bipush (v := 20) zd_X10_add_0.1.2.1.2 rfl ?_
    rcases zif_e h with ⟨hc2, h⟩ | ⟨hc2, h⟩
    · refine rn_icmp_lt_t (tgt := 18) hc2 zd_X10_add_0.1.2.2.1 rfl ?_
      refine rn_aload_n (q := 0) 0 rfl zd_X10_add_0.2.1.1.2 ?_
      refine rn_getR zf_X10_9 (Or.inr ⟨_, rfl⟩) k_a0 (zx_10_0 hW k_a0) zd_X10_add_0.2.1.2.1 ?_
      refine rn_aload_n (q := 0) 0 rfl zd_X10_add_0.2.1.2.2 ?_
      refine rn_getI zf_X10_34 (Or.inl rfl) k_a0 zd_X10_add_0.2.2.1.1 ?_
      refine rn_iload_n (q := 1) 1 rfl zd_X10_add_0.2.2.1.2 ?_
      obtain ⟨hc3, h⟩ := zck_e h
      obtain ⟨M4, hM4, h⟩ := zlt_e h
      refine rn_iast hM4 (zw_10_0 hW k_a0) hc3 zd_X10_add_0.2.2.2.1 ?_
      refine rn_aload_n (q := 0) 0 rfl zd_X10_add_0.2.2.2.2 ?_
      refine rn_getR zf_X10_15 (Or.inr ⟨_, rfl⟩) k_a0 (zx_10_1 hW k_a0) zd_X10_add_1.1.1.1.1 ?_
      refine rn_aload_n (q := 0) 0 rfl zd_X10_add_1.1.1.1.2 ?_
      refine rn_getI zf_X10_34 (Or.inl rfl) k_a0 zd_X10_add_1.1.1.2.1 ?_
      refine rn_iload_n (q := 2) 2 rfl zd_X10_add_1.1.1.2.2 ?_
      obtain ⟨hc5, h⟩ := zck_e h
      obtain ⟨M6, hM6, h⟩ := zlt_e h
      refine rn_iast hM6 (zw_10_1 hW k_a0) hc5 zd_X10_add_1.1.2.1.1 ?_
      refine rn_aload_n (q := 0) 0 rfl zd_X10_add_1.1.2.1.2 ?_
      refine rn_dup zd_X10_add_1.1.2.2.1 rfl ?_
      refine rn_getI zf_X10_34 (Or.inl rfl) k_a0 zd_X10_add_1.1.2.2.2 ?_
      refine rn_iconst (v := 1) zd_X10_add_1.2.1.1.1 rfl ?_
      refine rn_iadd zd_X10_add_1.2.1.1.2 ?_
      obtain ⟨M7, hM7, h⟩ := zlt_e h
      refine rn_putI hM7 zf_X10_34 k_a0 zd_X10_add_1.2.1.2.1 ?_
      refine rn_aload_n (q := 0) 0 rfl zd_X10_add_1.2.1.2.2 ?_
      refine rn_getI zf_X10_34 (Or.inl rfl) k_a0 zd_X10_add_1.2.2.1.1 ?_
      refine rn_iconst (v := 1) zd_X10_add_1.2.2.1.2 rfl ?_
      refine rn_isub zd_X10_add_1.2.2.2.1 ?_
      cases h
      exact rn_iret zd_X10_add_1.2.2.2.2 rfl
    · refine rn_icmp_lt_f (tgt := 18) hc2 zd_X10_add_0.1.2.2.1 rfl ?_
      refine rn_iconst (v := -1) zd_X10_add_0.1.2.2.2 rfl ?_
      cases h
      exact rn_iret zd_X10_add_0.2.1.1.1 rfl
abbrev P_X10_rowsUpTo_5 (G : zG) (K : zK) (R : zR) (M : zM) (L : zL) (x1 : Int32) (x2 : Int32) (r : Option Value) (S' : zS) (v : Int32 × Int32) : Prop := Rn G mt_X10_rowsUpTo 5 [(1, .int x1), (2, .int x2), (3, .int v.1), (4, .int v.2)] [] (M, L, R, K) r S'
abbrev Q_X10_rowsUpTo_5 (G : zG) (K : zK) (R : zR) (M : zM) (L : zL) (x1 : Int32) (x2 : Int32) (r : Option Value) (S' : zS) : (Int32) → Prop := (fun e => Rn G mt_X10_rowsUpTo 29 [(3, .int e)] [] (M, L, R, K) r S')
def b_X10_rowsUpTo_5 (x1 : Int32) (x2 : Int32) (x3 : Int32) (x4 : Int32) : Option ((Int32 × Int32) ⊕ ((Int32))) :=
  if x2 ≤ x4 then (
    some (.inr x3)
  ) else (
    if (200000 : Int32) < x3 then (
      some (.inr x3)
    ) else (
      some (.inl ((x3 * (x1 + (1 : Int32))), (x4 + 1)))
    )
  )
set_option maxRecDepth 4000 in
theorem ok_b_X10_rowsUpTo_5 {G : zG} {K : zK} {R : zR} {M : zM} {L : zL} (hW : zWT R K) {x1 : Int32} {x2 : Int32} {x3 : Int32} {x4 : Int32} {r : Option Value} {S' : zS} {x : (Int32 × Int32) ⊕ ((Int32))} (h : b_X10_rowsUpTo_5 x1 x2 x3 x4 = some x) (hk : Sum.elim (P_X10_rowsUpTo_5 G K R M L x1 x2 r S') (Q_X10_rowsUpTo_5 G K R M L x1 x2 r S') x) : P_X10_rowsUpTo_5 G K R M L x1 x2 r S' (x3, x4) := by
  show Rn G mt_X10_rowsUpTo 5 [(1, .int x1), (2, .int x2), (3, .int x3), (4, .int x4)] [] (M, L, R, K) r S'
  unfold b_X10_rowsUpTo_5 at h
  refine rn_iload 3 rfl zd_X10_rowsUpTo_0.1.2.1.1 ?_
  refine rn_iload_n (q := 2) 1 rfl zd_X10_rowsUpTo_0.1.2.1.2 ?_
  rcases zif_e h with ⟨hc1, h⟩ | ⟨hc1, h⟩
  · refine rn_icmp_ge_t (tgt := 29) hc1 zd_X10_rowsUpTo_0.1.2.2.1 rfl ?_
    cases h
    exact rn_sub (ls' := [(3, .int x3)]) [2] rfl hk
  · refine rn_icmp_ge_f (tgt := 29) hc1 zd_X10_rowsUpTo_0.1.2.2.1 rfl ?_
    refine rn_iload_n (q := 3) 2 rfl zd_X10_rowsUpTo_0.1.2.2.2 ?_
    refine rn_ldc (v := 200000) zk_X10_38 zd_X10_rowsUpTo_0.2.1.1.1 ?_
    rcases zif_e h with ⟨hc2, h⟩ | ⟨hc2, h⟩
    · refine rn_icmp_gt_t (tgt := 29) hc2 zd_X10_rowsUpTo_0.2.1.1.2 rfl ?_
      cases h
      exact rn_sub (ls' := [(3, .int x3)]) [2] rfl hk
    · refine rn_icmp_gt_f (tgt := 29) hc2 zd_X10_rowsUpTo_0.2.1.1.2 rfl ?_
      refine rn_iload_n (q := 3) 2 rfl zd_X10_rowsUpTo_0.2.1.2.1 ?_
      refine rn_iload_n (q := 1) 0 rfl zd_X10_rowsUpTo_0.2.1.2.2 ?_
      refine rn_iconst (v := 1) zd_X10_rowsUpTo_0.2.2.1.1 rfl ?_
      refine rn_iadd zd_X10_rowsUpTo_0.2.2.1.2 ?_
      refine rn_imul zd_X10_rowsUpTo_0.2.2.2.1 ?_
      refine rn_istore_n (q := 3) (ls' := [(3, .int (x3 * (x1 + (1 : Int32)))), (1, .int x1), (2, .int x2), (4, .int x4)]) (by decide) rfl zd_X10_rowsUpTo_0.2.2.2.2 ?_
      refine rn_iinc (v := (x4 + 1)) (ls' := [(4, .int (x4 + 1)), (3, .int (x3 * (x1 + (1 : Int32)))), (1, .int x1), (2, .int x2)]) 3 rfl rfl (by decide) rfl zd_X10_rowsUpTo_1.1.1 ?_
      refine rn_goto (tgt := 5) zd_X10_rowsUpTo_1.1.2 rfl ?_
      cases h
      exact rn_sub (ls' := [(1, .int x1), (2, .int x2), (3, .int (x3 * (x1 + (1 : Int32)))), (4, .int (x4 + 1))]) [2, 3, 1, 0] rfl hk
def f_X10_rowsUpTo (a0 : Nat) (x1 : Int32) (x2 : Int32) : Option (Int32) :=
  zbd (zloop zN (fun v => b_X10_rowsUpTo_5 x1 x2 v.1 v.2) ((1 : Int32), (0 : Int32))) fun e3 =>
  some e3
set_option maxRecDepth 4000 in
theorem ok_X10_rowsUpTo {G : zG} {K : zK} {R : zR} {M : zM} {L : zL} (hW : zWT R K) {a0 : Nat} {x1 : Int32} {x2 : Int32} (k_a0 : K[a0]? = some (10, 11)) {r' : Int32} (h : f_X10_rowsUpTo a0 x1 x2 = some r') : Rm G mt_X10_rowsUpTo [.ref a0, .int x1, .int x2] (M, L, R, K) (some (.int r')) (M, L, R, K) := by
  refine rm_rn rfl rfl (Nat.le_of_ble_eq_true rfl) ?_
  show Rn G mt_X10_rowsUpTo 0 [(0, .ref a0), (1, .int x1), (2, .int x2)] [] (M, L, R, K) (some (.int r')) (M, L, R, K)
  unfold f_X10_rowsUpTo at h
  refine rn_iconst (v := 1) zd_X10_rowsUpTo_0.1.1.1.1 rfl ?_
  refine rn_istore_n (q := 3) (ls' := [(3, .int (1 : Int32)), (0, .ref a0), (1, .int x1), (2, .int x2)]) (by decide) rfl zd_X10_rowsUpTo_0.1.1.1.2 ?_
  refine rn_iconst (v := 0) zd_X10_rowsUpTo_0.1.1.2.1 rfl ?_
  refine rn_istore (ls' := [(4, .int (0 : Int32)), (3, .int (1 : Int32)), (0, .ref a0), (1, .int x1), (2, .int x2)]) (by decide) rfl zd_X10_rowsUpTo_0.1.1.2.2 ?_
  obtain ⟨e3, he3, h⟩ := zbd_e h
  refine rn_sub (ls' := [(1, .int x1), (2, .int x2), (3, .int (1 : Int32)), (4, .int (0 : Int32))]) [3, 4, 1, 0] rfl (zloop_ok (P := P_X10_rowsUpTo_5 G K R M L x1 x2 (some (.int r')) (M, L, R, K)) (Q := Q_X10_rowsUpTo_5 G K R M L x1 x2 (some (.int r')) (M, L, R, K)) (fun v x hx hq => ok_b_X10_rowsUpTo_5 hW hx hq) _ _ _ he3 ?_)
  show Rn G mt_X10_rowsUpTo 29 [(3, .int e3)] [] (M, L, R, K) (some (.int r')) (M, L, R, K)
  refine rn_iload_n (q := 3) 0 rfl zd_X10_rowsUpTo_1.2.1 ?_
  cases h
  exact rn_iret zd_X10_rowsUpTo_1.2.2 rfl
def f_X10_note (R : zR) (M : zM) (a0 : Nat) (x1 : Int32) : Option (zM) :=
  zlt (zup M a0 8 ((M a0 8) + (1 : Int32))) fun M1 =>
  if x1 < 0 then (
    some M1
  ) else (
    if x1 < (10 : Int32) then (
      zck (zin x1 10) <|
      zlt (zup M1 a0 9 (if (M1 (R a0 4) (ztn x1)) < (M1 a0 9) then (M1 (R a0 4) (ztn x1)) else (M1 a0 9))) fun M5 =>
      zck (zin x1 10) <|
      zlt (zup M5 a0 10 (if (M5 a0 10) < (M5 (R a0 4) (ztn x1)) then (M5 (R a0 4) (ztn x1)) else (M5 a0 10))) fun M7 =>
      some M7
    ) else (
      some M1
    )
  )
set_option maxRecDepth 4000 in
theorem ok_X10_note {G : zG} {K : zK} {R : zR} {M : zM} {L : zL} (hW : zWT R K) {a0 : Nat} {x1 : Int32} (k_a0 : K[a0]? = some (10, 11)) {M' : zM} (h : f_X10_note R M a0 x1 = some M') : Rm G mt_X10_note [.ref a0, .int x1] (M, L, R, K) none (M', L, R, K) := by
  refine rm_rn rfl rfl (Nat.le_of_ble_eq_true rfl) ?_
  show Rn G mt_X10_note 0 [(0, .ref a0), (1, .int x1)] [] (M, L, R, K) none (M', L, R, K)
  unfold f_X10_note at h
  refine rn_aload_n (q := 0) 0 rfl zd_X10_note_0.1.1.1.1 ?_
  refine rn_dup zd_X10_note_0.1.1.1.2 rfl ?_
  refine rn_getI zf_X10_61 (Or.inl rfl) k_a0 zd_X10_note_0.1.1.2.1 ?_
  refine rn_iconst (v := 1) zd_X10_note_0.1.1.2.2 rfl ?_
  refine rn_iadd zd_X10_note_0.1.2.1.1 ?_
  obtain ⟨M1, hM1, h⟩ := zlt_e h
  refine rn_putI hM1 zf_X10_61 k_a0 zd_X10_note_0.1.2.1.2 ?_
  refine rn_iload_n (q := 1) 1 rfl zd_X10_note_0.1.2.2.1 ?_
  rcases zif_e h with ⟨hc2, h⟩ | ⟨hc2, h⟩
  · refine rn_if_lt_t (tgt := 20) hc2 zd_X10_note_0.1.2.2.2 rfl ?_
    cases h
    exact rn_vret zd_X10_note_0.2.1.2.2 rfl
  · refine rn_if_lt_f (tgt := 20) hc2 zd_X10_note_0.1.2.2.2 rfl ?_
    refine rn_iload_n (q := 1) 1 rfl zd_X10_note_0.2.1.1.1 ?_
    refine rn_bipush (v := 10) zd_X10_note_0.2.1.1.2 rfl ?_
    rcases zif_e h with ⟨hc3, h⟩ | ⟨hc3, h⟩
    · refine rn_icmp_lt_t (tgt := 21) hc3 zd_X10_note_0.2.1.2.1 rfl ?_
      refine rn_aload_n (q := 0) 0 rfl zd_X10_note_0.2.2.1.1 ?_
      refine rn_aload_n (q := 0) 0 rfl zd_X10_note_0.2.2.1.2 ?_
      refine rn_getI zf_X10_64 (Or.inl rfl) k_a0 zd_X10_note_0.2.2.2.1 ?_
      refine rn_aload_n (q := 0) 0 rfl zd_X10_note_0.2.2.2.2 ?_
      refine rn_getR zf_X10_24 (Or.inr ⟨_, rfl⟩) k_a0 (zx_10_4 hW k_a0) zd_X10_note_1.1.1.1 ?_
      refine rn_iload_n (q := 1) 1 rfl zd_X10_note_1.1.1.2.1 ?_
      obtain ⟨hc4, h⟩ := zck_e h
      refine rn_iald (zw_10_4 hW k_a0) hc4 zd_X10_note_1.1.1.2.2 ?_
      refine rn_min zb_X10_108 zms_min zmi zmc_min ⟨by decide, by decide⟩ (Nat.le_of_ble_eq_true rfl) zd_X10_note_1.1.2.1.1 ?_
      obtain ⟨M5, hM5, h⟩ := zlt_e h
      refine rn_putI hM5 zf_X10_64 k_a0 zd_X10_note_1.1.2.1.2 ?_
      refine rn_aload_n (q := 0) 0 rfl zd_X10_note_1.1.2.2.1 ?_
      refine rn_aload_n (q := 0) 0 rfl zd_X10_note_1.1.2.2.2 ?_
      refine rn_getI zf_X10_67 (Or.inl rfl) k_a0 zd_X10_note_1.2.1.1.1 ?_
      refine rn_aload_n (q := 0) 0 rfl zd_X10_note_1.2.1.1.2 ?_
      refine rn_getR zf_X10_24 (Or.inr ⟨_, rfl⟩) k_a0 (zx_10_4 hW k_a0) zd_X10_note_1.2.1.2.1 ?_
      refine rn_iload_n (q := 1) 1 rfl zd_X10_note_1.2.1.2.2 ?_
      obtain ⟨hc6, h⟩ := zck_e h
      refine rn_iald (zw_10_4 hW k_a0) hc6 zd_X10_note_1.2.2.1.1 ?_
      refine rn_max zb_X10_46 zms_max zmi zmc_max ⟨by decide, by decide⟩ (Nat.le_of_ble_eq_true rfl) zd_X10_note_1.2.2.1.2 ?_
      obtain ⟨M7, hM7, h⟩ := zlt_e h
      refine rn_putI hM7 zf_X10_67 k_a0 zd_X10_note_1.2.2.2.1 ?_
      cases h
      exact rn_vret zd_X10_note_1.2.2.2.2 rfl
    · refine rn_icmp_lt_f (tgt := 21) hc3 zd_X10_note_0.2.1.2.1 rfl ?_
      cases h
      exact rn_vret zd_X10_note_0.2.1.2.2 rfl
abbrev P_X10_paysAsKnown_2 (G : zG) (K : zK) (R : zR) (L : zL) (a0 : Nat) (a1 : Nat) (r : Option Value) (S' : zS) (v : Int32 × zM) : Prop := Rn G mt_X10_paysAsKnown 2 [(0, .ref a0), (1, .ref a1), (2, .int v.1)] [] (v.2, L, R, K) r S'
abbrev Q_X10_paysAsKnown_2 (G : zG) (K : zK) (R : zR) (L : zL) (a0 : Nat) (a1 : Nat) (r : Option Value) (S' : zS) : (zM) → Prop := (fun e => Rn G mt_X10_paysAsKnown 40 [(0, .ref a0), (1, .ref a1)] [] (e, L, R, K) r S')
def nb_X10_paysAsKnown_2 (R : zR) (M : zM) (L : zL) (a0 : Nat) (a1 : Nat) (x2 : Int32) : Option ((Int32 × zM) ⊕ ((zM))) :=
  if (10 : Int32) ≤ x2 then (
    some (.inr M)
  ) else (
    zbd (f_X6_has M (R a0 5) x2) fun r2 =>
    if r2 = 0 then (
      some (.inr M)
    ) else (
      zck (zin x2 10) <|
      zck (zin x2 10) <|
      zlt (zup M (R (R a0 5) 0) (ztn x2) (M (R a0 4) (ztn x2))) fun M7 =>
      some (.inl ((x2 + 1), M7))
    )
  )
set_option maxRecDepth 4000 in
theorem ok_b_X10_paysAsKnown_2 {G : zG} {K : zK} {R : zR} {M : zM} {L : zL} (hW : zWT R K) {a0 : Nat} {a1 : Nat} {x2 : Int32} (k_a0 : K[a0]? = some (10, 11)) (k_a1 : K[a1]? = some (7, 11)) {r : Option Value} {S' : zS} {x : (Int32 × zM) ⊕ ((zM))} (h : nb_X10_paysAsKnown_2 R M L a0 a1 x2 = some x) (hk : Sum.elim (P_X10_paysAsKnown_2 G K R L a0 a1 r S') (Q_X10_paysAsKnown_2 G K R L a0 a1 r S') x) : P_X10_paysAsKnown_2 G K R L a0 a1 r S' (x2, M) := by
  show Rn G mt_X10_paysAsKnown 2 [(0, .ref a0), (1, .ref a1), (2, .int x2)] [] (M, L, R, K) r S'
  unfold nb_X10_paysAsKnown_2 at h
  refine rn_iload_n (q := 2) 2 rfl zd_X10_paysAsKnown_0.1.1.2.1 ?_
  refine rn_bipush (v := 10) zd_X10_paysAsKnown_0.1.1.2.2 rfl ?_
  rcases zif_e h with ⟨hc1, h⟩ | ⟨hc1, h⟩
  · refine rn_icmp_ge_t (tgt := 40) hc1 zd_X10_paysAsKnown_0.1.2.1.1 rfl ?_
    cases h
    exact rn_sub (ls' := [(0, .ref a0), (1, .ref a1)]) [0, 1] rfl hk
  · refine rn_icmp_ge_f (tgt := 40) hc1 zd_X10_paysAsKnown_0.1.2.1.1 rfl ?_
    refine rn_aload_n (q := 0) 0 rfl zd_X10_paysAsKnown_0.1.2.1.2 ?_
    refine rn_getR zf_X10_30 (Or.inl ⟨_, rfl⟩) k_a0 (zx_10_5 hW k_a0) zd_X10_paysAsKnown_0.1.2.2.1 ?_
    refine rn_iload_n (q := 2) 2 rfl zd_X10_paysAsKnown_0.1.2.2.2 ?_
    obtain ⟨r2, h3, h⟩ := zbd_e h
    refine rn_callVi (As := [.int x2]) (rest := []) zl_X10_42 zm_X6_has ⟨by decide, by decide⟩ (ci := 6) rfl rfl (by decide) (zw_10_5 hW k_a0) rfl rfl (Nat.le_of_ble_eq_true rfl) zd_X10_paysAsKnown_0.2.1.1.1 (ok_X6_has hW (zw_10_5 hW k_a0) h3) ?_
    rcases zif_e h with ⟨hc4, h⟩ | ⟨hc4, h⟩
    · refine rn_if_eq_t (tgt := 40) hc4 zd_X10_paysAsKnown_0.2.1.1.2 rfl ?_
      cases h
      exact rn_sub (ls' := [(0, .ref a0), (1, .ref a1)]) [0, 1] rfl hk
    · refine rn_if_eq_f (tgt := 40) hc4 zd_X10_paysAsKnown_0.2.1.1.2 rfl ?_
      refine rn_aload_n (q := 0) 0 rfl zd_X10_paysAsKnown_0.2.1.2.1 ?_
      refine rn_getR zf_X10_30 (Or.inl ⟨_, rfl⟩) k_a0 (zx_10_5 hW k_a0) zd_X10_paysAsKnown_0.2.1.2.2 ?_
      refine rn_getR zf_X10_58 (Or.inr ⟨_, rfl⟩) (zw_10_5 hW k_a0) (zx_6_0 hW (zw_10_5 hW k_a0)) zd_X10_paysAsKnown_0.2.2.1.1 ?_
      refine rn_iload_n (q := 2) 2 rfl zd_X10_paysAsKnown_0.2.2.1.2 ?_
      refine rn_aload_n (q := 0) 0 rfl zd_X10_paysAsKnown_0.2.2.2.1 ?_
      refine rn_getR zf_X10_24 (Or.inr ⟨_, rfl⟩) k_a0 (zx_10_4 hW k_a0) zd_X10_paysAsKnown_0.2.2.2.2 ?_
      refine rn_iload_n (q := 2) 2 rfl zd_X10_paysAsKnown_1.1.1.1.1 ?_
      obtain ⟨hc5, h⟩ := zck_e h
      refine rn_iald (zw_10_4 hW k_a0) hc5 zd_X10_paysAsKnown_1.1.1.1.2 ?_
      obtain ⟨hc6, h⟩ := zck_e h
      obtain ⟨M7, hM7, h⟩ := zlt_e h
      refine rn_iast hM7 (zw_6_0 hW (zw_10_5 hW k_a0)) hc6 zd_X10_paysAsKnown_1.1.1.2.1 ?_
      refine rn_iinc (v := (x2 + 1)) (ls' := [(2, .int (x2 + 1)), (0, .ref a0), (1, .ref a1)]) 2 rfl rfl (by decide) rfl zd_X10_paysAsKnown_1.1.1.2.2 ?_
      refine rn_goto (tgt := 2) zd_X10_paysAsKnown_1.1.2.1.1 rfl ?_
      cases h
      exact rn_sub (ls' := [(0, .ref a0), (1, .ref a1), (2, .int (x2 + 1))]) [1, 2, 0] rfl hk
abbrev P_X10_paysAsKnown_42 (G : zG) (K : zK) (R : zR) (a0 : Nat) (a1 : Nat) (r : Option Value) (S' : zS) (v : Int32 × zM × zL) : Prop := Rn G mt_X10_paysAsKnown 42 [(0, .ref a0), (1, .ref a1), (2, .int v.1)] [] (v.2.1, v.2.2, R, K) r S'
abbrev Q_X10_paysAsKnown_42 (G : zG) (K : zK) (R : zR) (a0 : Nat) (a1 : Nat) (r : Option Value) (S' : zS) : (zM × zL) ⊕ (zM × zL) → Prop := (Sum.elim (fun e => Rn G mt_X10_paysAsKnown 117 [] [] (e.1, e.2, R, K) r S') (fun e => Rn G mt_X10_paysAsKnown 141 [] [] (e.1, e.2, R, K) r S'))
def nj_X10_paysAsKnown_119 (R : zR) (M : zM) (L : zL) (a0 : Nat) (a1 : Nat) (x2 : Int32) (x3 : Int32) : Option ((Int32 × zM × zL) ⊕ ((zM × zL) ⊕ (zM × zL))) :=
  if (M a1 7) = 0 then (
    some (.inl ((x2 + 1), M, L))
  ) else (
    zbd2 (n_X6_pay R M L (R a0 5) x2 x3) fun M22 L23 =>
    some (.inl ((x2 + 1), M22, L23))
  )
set_option maxRecDepth 4000 in
theorem ok_j_X10_paysAsKnown_119 {G : zG} {K : zK} {R : zR} {M : zM} {L : zL} (hW : zWT R K) {a0 : Nat} {a1 : Nat} {x2 : Int32} {x3 : Int32} (k_a0 : K[a0]? = some (10, 11)) (k_a1 : K[a1]? = some (7, 11)) {r : Option Value} {S' : zS} {x : (Int32 × zM × zL) ⊕ ((zM × zL) ⊕ (zM × zL))} (h : nj_X10_paysAsKnown_119 R M L a0 a1 x2 x3 = some x) (hk : Sum.elim (P_X10_paysAsKnown_42 G K R a0 a1 r S') (Q_X10_paysAsKnown_42 G K R a0 a1 r S') x) : Rn G mt_X10_paysAsKnown 119 [(0, .ref a0), (1, .ref a1), (2, .int x2), (3, .int x3)] [] (M, L, R, K) r S' := by
  unfold nj_X10_paysAsKnown_119 at h
  refine rn_aload_n (q := 1) 1 rfl zd_X10_paysAsKnown_4.1.1.2.1 ?_
  refine rn_getI zf_X10_94 (Or.inr rfl) k_a1 zd_X10_paysAsKnown_4.1.1.2.2 ?_
  rcases zif_e h with ⟨hc21, h⟩ | ⟨hc21, h⟩
  · refine rn_if_eq_t (tgt := 135) hc21 zd_X10_paysAsKnown_4.1.2.1 rfl ?_
    refine rn_iinc (v := (x2 + 1)) (ls' := [(2, .int (x2 + 1)), (0, .ref a0), (1, .ref a1), (3, .int x3)]) 2 rfl rfl (by decide) rfl zd_X10_paysAsKnown_4.2.2.1.1 ?_
    refine rn_goto (tgt := 42) zd_X10_paysAsKnown_4.2.2.1.2 rfl ?_
    cases h
    exact rn_sub (ls' := [(0, .ref a0), (1, .ref a1), (2, .int (x2 + 1))]) [1, 2, 0] rfl hk
  · refine rn_if_eq_f (tgt := 135) hc21 zd_X10_paysAsKnown_4.1.2.1 rfl ?_
    refine rn_aload_n (q := 0) 0 rfl zd_X10_paysAsKnown_4.1.2.2.1 ?_
    refine rn_getR zf_X10_30 (Or.inl ⟨_, rfl⟩) k_a0 (zx_10_5 hW k_a0) zd_X10_paysAsKnown_4.1.2.2.2 ?_
    refine rn_iload_n (q := 2) 2 rfl zd_X10_paysAsKnown_4.2.1.1 ?_
    refine rn_iload_n (q := 3) 3 rfl zd_X10_paysAsKnown_4.2.1.2.1 ?_
    obtain ⟨M22, L23, h24, h⟩ := zbd2_e h
    refine rn_callVv (As := [.int x2, .int x3]) (rest := []) zl_X10_104 zm_X6_pay ⟨by decide, by decide⟩ (ci := 6) rfl rfl (by decide) (zw_10_5 hW k_a0) rfl rfl (Nat.le_of_ble_eq_true rfl) zd_X10_paysAsKnown_4.2.1.2.2 (ok_X6_pay hW (zw_10_5 hW k_a0) h24) ?_
    refine rn_iinc (v := (x2 + 1)) (ls' := [(2, .int (x2 + 1)), (0, .ref a0), (1, .ref a1), (3, .int x3)]) 2 rfl rfl (by decide) rfl zd_X10_paysAsKnown_4.2.2.1.1 ?_
    refine rn_goto (tgt := 42) zd_X10_paysAsKnown_4.2.2.1.2 rfl ?_
    cases h
    exact rn_sub (ls' := [(0, .ref a0), (1, .ref a1), (2, .int (x2 + 1))]) [1, 2, 0] rfl hk
def nj_X10_paysAsKnown_87 (R : zR) (M : zM) (L : zL) (a0 : Nat) (a1 : Nat) (x2 : Int32) : Option ((Int32 × zM × zL) ⊕ ((zM × zL) ⊕ (zM × zL))) :=
  zbd2 (f_X7_wanted R M a1 (R a0 5) x2) fun r16 M17 =>
  zck (zin x2 10) <|
  if (M17 (R a0 2) (ztn x2)) = (-1 : Int32) then (
    nj_X10_paysAsKnown_119 R M17 L a0 a1 x2 r16
  ) else (
    zck (zin x2 10) <|
    if r16 = (M17 (R a0 2) (ztn x2)) then (
      nj_X10_paysAsKnown_119 R M17 L a0 a1 x2 r16
    ) else (
      some (.inr (.inl (M17, L)))
    )
  )
set_option maxRecDepth 4000 in
theorem ok_j_X10_paysAsKnown_87 {G : zG} {K : zK} {R : zR} {M : zM} {L : zL} (hW : zWT R K) {a0 : Nat} {a1 : Nat} {x2 : Int32} (k_a0 : K[a0]? = some (10, 11)) (k_a1 : K[a1]? = some (7, 11)) {r : Option Value} {S' : zS} {x : (Int32 × zM × zL) ⊕ ((zM × zL) ⊕ (zM × zL))} (h : nj_X10_paysAsKnown_87 R M L a0 a1 x2 = some x) (hk : Sum.elim (P_X10_paysAsKnown_42 G K R a0 a1 r S') (Q_X10_paysAsKnown_42 G K R a0 a1 r S') x) : Rn G mt_X10_paysAsKnown 87 [(0, .ref a0), (1, .ref a1), (2, .int x2)] [] (M, L, R, K) r S' := by
  unfold nj_X10_paysAsKnown_87 at h
  refine rn_aload_n (q := 1) 1 rfl zd_X10_paysAsKnown_2.2.2.1.2 ?_
  refine rn_aload_n (q := 0) 0 rfl zd_X10_paysAsKnown_2.2.2.2.1 ?_
  refine rn_getR zf_X10_30 (Or.inl ⟨_, rfl⟩) k_a0 (zx_10_5 hW k_a0) zd_X10_paysAsKnown_2.2.2.2.2 ?_
  refine rn_iload_n (q := 2) 2 rfl zd_X10_paysAsKnown_3.1.1.1.1 ?_
  obtain ⟨r16, M17, h18, h⟩ := zbd2_e h
  refine rn_callVi (As := [.ref (R a0 5), .int x2]) (rest := []) zl_X10_100 zm_X7_wanted ⟨by decide, by decide⟩ (ci := 7) rfl rfl (by decide) k_a1 rfl rfl (Nat.le_of_ble_eq_true rfl) zd_X10_paysAsKnown_3.1.1.1.2 (ok_X7_wanted hW k_a1 (zw_10_5 hW k_a0) h18) ?_
  refine rn_istore_n (q := 3) (ls' := [(3, .int r16), (0, .ref a0), (1, .ref a1), (2, .int x2)]) (by decide) rfl zd_X10_paysAsKnown_3.1.1.2.1 ?_
  refine rn_aload_n (q := 0) 1 rfl zd_X10_paysAsKnown_3.1.1.2.2 ?_
  refine rn_getR zf_X10_18 (Or.inr ⟨_, rfl⟩) k_a0 (zx_10_2 hW k_a0) zd_X10_paysAsKnown_3.1.2.1.1 ?_
  refine rn_iload_n (q := 2) 3 rfl zd_X10_paysAsKnown_3.1.2.1.2 ?_
  obtain ⟨hc19, h⟩ := zck_e h
  refine rn_iald (zw_10_2 hW k_a0) hc19 zd_X10_paysAsKnown_3.1.2.2.1 ?_
  refine rn_iconst (v := -1) zd_X10_paysAsKnown_3.1.2.2.2 rfl ?_
  rcases zif_e h with ⟨hc20, h⟩ | ⟨hc20, h⟩
  · refine rn_icmp_eq_t (tgt := 119) hc20 zd_X10_paysAsKnown_3.2.1.1.1 rfl ?_
    exact rn_sub (ls' := [(0, .ref a0), (1, .ref a1), (2, .int x2), (3, .int r16)]) [1, 2, 3, 0] rfl (ok_j_X10_paysAsKnown_119 hW k_a0 k_a1 h hk)
  · refine rn_icmp_eq_f (tgt := 119) hc20 zd_X10_paysAsKnown_3.2.1.1.1 rfl ?_
    refine rn_iload_n (q := 3) 0 rfl zd_X10_paysAsKnown_3.2.1.1.2 ?_
    refine rn_aload_n (q := 0) 1 rfl zd_X10_paysAsKnown_3.2.1.2.1 ?_
    refine rn_getR zf_X10_18 (Or.inr ⟨_, rfl⟩) k_a0 (zx_10_2 hW k_a0) zd_X10_paysAsKnown_3.2.1.2.2 ?_
    refine rn_iload_n (q := 2) 3 rfl zd_X10_paysAsKnown_3.2.2.1.1 ?_
    obtain ⟨hc25, h⟩ := zck_e h
    refine rn_iald (zw_10_2 hW k_a0) hc25 zd_X10_paysAsKnown_3.2.2.1.2 ?_
    rcases zif_e h with ⟨hc26, h⟩ | ⟨hc26, h⟩
    · refine rn_icmp_eq_t (tgt := 119) hc26 zd_X10_paysAsKnown_3.2.2.2.1 rfl ?_
      exact rn_sub (ls' := [(0, .ref a0), (1, .ref a1), (2, .int x2), (3, .int r16)]) [1, 2, 3, 0] rfl (ok_j_X10_paysAsKnown_119 hW k_a0 k_a1 h hk)
    · refine rn_icmp_eq_f (tgt := 119) hc26 zd_X10_paysAsKnown_3.2.2.2.1 rfl ?_
      cases h
      exact rn_sub (ls' := []) [] rfl hk
def nb_X10_paysAsKnown_42 (R : zR) (M : zM) (L : zL) (a0 : Nat) (a1 : Nat) (x2 : Int32) : Option ((Int32 × zM × zL) ⊕ ((zM × zL) ⊕ (zM × zL))) :=
  if (M a0 7) < x2 then (
    some (.inr (.inr (M, L)))
  ) else (
    if (10 : Int32) ≤ x2 then (
      some (.inr (.inr (M, L)))
    ) else (
      zbd (f_X6_has M (R a0 5) x2) fun r11 =>
      if r11 = 0 then (
        some (.inr (.inr (M, L)))
      ) else (
        zck (zin x2 10) <|
        if (M (R a0 2) (ztn x2)) = (-1 : Int32) then (
          if (M a1 7) = 0 then (
            some (.inl ((x2 + 1), M, L))
          ) else (
            nj_X10_paysAsKnown_87 R M L a0 a1 x2
          )
        ) else (
          nj_X10_paysAsKnown_87 R M L a0 a1 x2
        )
      )
    )
  )
set_option maxRecDepth 4000 in
theorem ok_b_X10_paysAsKnown_42 {G : zG} {K : zK} {R : zR} {M : zM} {L : zL} (hW : zWT R K) {a0 : Nat} {a1 : Nat} {x2 : Int32} (k_a0 : K[a0]? = some (10, 11)) (k_a1 : K[a1]? = some (7, 11)) {r : Option Value} {S' : zS} {x : (Int32 × zM × zL) ⊕ ((zM × zL) ⊕ (zM × zL))} (h : nb_X10_paysAsKnown_42 R M L a0 a1 x2 = some x) (hk : Sum.elim (P_X10_paysAsKnown_42 G K R a0 a1 r S') (Q_X10_paysAsKnown_42 G K R a0 a1 r S') x) : P_X10_paysAsKnown_42 G K R a0 a1 r S' (x2, M, L) := by
  show Rn G mt_X10_paysAsKnown 42 [(0, .ref a0), (1, .ref a1), (2, .int x2)] [] (M, L, R, K) r S'
  unfold nb_X10_paysAsKnown_42 at h
  refine rn_iload_n (q := 2) 2 rfl zd_X10_paysAsKnown_1.1.2.2.2 ?_
  refine rn_aload_n (q := 0) 0 rfl zd_X10_paysAsKnown_1.2.1.1.1 ?_
  refine rn_getI zf_X10_39 (Or.inl rfl) k_a0 zd_X10_paysAsKnown_1.2.1.1.2 ?_
  rcases zif_e h with ⟨hc9, h⟩ | ⟨hc9, h⟩
  · refine rn_icmp_gt_t (tgt := 141) hc9 zd_X10_paysAsKnown_1.2.1.2.1 rfl ?_
    cases h
    exact rn_sub (ls' := []) [] rfl hk
  · refine rn_icmp_gt_f (tgt := 141) hc9 zd_X10_paysAsKnown_1.2.1.2.1 rfl ?_
    refine rn_iload_n (q := 2) 2 rfl zd_X10_paysAsKnown_1.2.1.2.2 ?_
    refine rn_bipush (v := 10) zd_X10_paysAsKnown_1.2.2.1.1 rfl ?_
    rcases zif_e h with ⟨hc10, h⟩ | ⟨hc10, h⟩
    · refine rn_icmp_ge_t (tgt := 141) hc10 zd_X10_paysAsKnown_1.2.2.1.2 rfl ?_
      cases h
      exact rn_sub (ls' := []) [] rfl hk
    · refine rn_icmp_ge_f (tgt := 141) hc10 zd_X10_paysAsKnown_1.2.2.1.2 rfl ?_
      refine rn_aload_n (q := 0) 0 rfl zd_X10_paysAsKnown_1.2.2.2.1 ?_
      refine rn_getR zf_X10_30 (Or.inl ⟨_, rfl⟩) k_a0 (zx_10_5 hW k_a0) zd_X10_paysAsKnown_1.2.2.2.2 ?_
      refine rn_iload_n (q := 2) 2 rfl zd_X10_paysAsKnown_2.1.1.1.1 ?_
      obtain ⟨r11, h12, h⟩ := zbd_e h
      refine rn_callVi (As := [.int x2]) (rest := []) zl_X10_42 zm_X6_has ⟨by decide, by decide⟩ (ci := 6) rfl rfl (by decide) (zw_10_5 hW k_a0) rfl rfl (Nat.le_of_ble_eq_true rfl) zd_X10_paysAsKnown_2.1.1.1.2 (ok_X6_has hW (zw_10_5 hW k_a0) h12) ?_
      rcases zif_e h with ⟨hc13, h⟩ | ⟨hc13, h⟩
      · refine rn_if_eq_t (tgt := 141) hc13 zd_X10_paysAsKnown_2.1.1.2.1 rfl ?_
        cases h
        exact rn_sub (ls' := []) [] rfl hk
      · refine rn_if_eq_f (tgt := 141) hc13 zd_X10_paysAsKnown_2.1.1.2.1 rfl ?_
        refine rn_aload_n (q := 0) 0 rfl zd_X10_paysAsKnown_2.1.1.2.2 ?_
        refine rn_getR zf_X10_18 (Or.inr ⟨_, rfl⟩) k_a0 (zx_10_2 hW k_a0) zd_X10_paysAsKnown_2.1.2.1.1 ?_
        refine rn_iload_n (q := 2) 2 rfl zd_X10_paysAsKnown_2.1.2.1.2 ?_
        obtain ⟨hc14, h⟩ := zck_e h
        refine rn_iald (zw_10_2 hW k_a0) hc14 zd_X10_paysAsKnown_2.1.2.2.1 ?_
        refine rn_iconst (v := -1) zd_X10_paysAsKnown_2.1.2.2.2 rfl ?_
        rcases zif_e h with ⟨hc15, h⟩ | ⟨hc15, h⟩
        · refine rn_icmp_ne_f (tgt := 87) hc15 zd_X10_paysAsKnown_2.2.1.1.1 rfl ?_
          refine rn_aload_n (q := 1) 1 rfl zd_X10_paysAsKnown_2.2.1.1.2 ?_
          refine rn_getI zf_X10_94 (Or.inr rfl) k_a1 zd_X10_paysAsKnown_2.2.1.2.1 ?_
          rcases zif_e h with ⟨hc27, h⟩ | ⟨hc27, h⟩
          · refine rn_if_ne_f (tgt := 87) hc27 zd_X10_paysAsKnown_2.2.1.2.2 rfl ?_
            refine rn_goto (tgt := 135) zd_X10_paysAsKnown_2.2.2.1.1 rfl ?_
            refine rn_iinc (v := (x2 + 1)) (ls' := [(2, .int (x2 + 1)), (0, .ref a0), (1, .ref a1)]) 2 rfl rfl (by decide) rfl zd_X10_paysAsKnown_4.2.2.1.1 ?_
            refine rn_goto (tgt := 42) zd_X10_paysAsKnown_4.2.2.1.2 rfl ?_
            cases h
            exact rn_sub (ls' := [(0, .ref a0), (1, .ref a1), (2, .int (x2 + 1))]) [1, 2, 0] rfl hk
          · refine rn_if_ne_t (tgt := 87) hc27 zd_X10_paysAsKnown_2.2.1.2.2 rfl ?_
            exact rn_sub (ls' := [(0, .ref a0), (1, .ref a1), (2, .int x2)]) [0, 1, 2] rfl (ok_j_X10_paysAsKnown_87 hW k_a0 k_a1 h hk)
        · refine rn_icmp_ne_t (tgt := 87) hc15 zd_X10_paysAsKnown_2.2.1.1.1 rfl ?_
          exact rn_sub (ls' := [(0, .ref a0), (1, .ref a1), (2, .int x2)]) [0, 1, 2] rfl (ok_j_X10_paysAsKnown_87 hW k_a0 k_a1 h hk)
def n_X10_paysAsKnown (R : zR) (M : zM) (L : zL) (a0 : Nat) (a1 : Nat) : Option (Int32 × zM × zL) :=
  zbd (zloop zN (fun v => nb_X10_paysAsKnown_2 R v.2 L a0 a1 v.1) ((0 : Int32), M)) fun e8 =>
  zbd (zloop zN (fun v => nb_X10_paysAsKnown_42 R v.2.1 v.2.2 a0 a1 v.1) ((0 : Int32), e8, L)) fun e28 =>
  Sum.elim (fun e29 =>
    some ((0 : Int32), e29.1, e29.2)
  ) (fun e30 =>
    some ((1 : Int32), e30.1, e30.2)
  ) e28
set_option maxRecDepth 4000 in
theorem ok_X10_paysAsKnown {G : zG} {K : zK} {R : zR} {M : zM} {L : zL} (hW : zWT R K) {a0 : Nat} {a1 : Nat} (k_a0 : K[a0]? = some (10, 11)) (k_a1 : K[a1]? = some (7, 11)) {r' : Int32} {M' : zM} {L' : zL} (h : n_X10_paysAsKnown R M L a0 a1 = some (r', M', L')) : Rm G mt_X10_paysAsKnown [.ref a0, .ref a1] (M, L, R, K) (some (.int r')) (M', L', R, K) := by
  refine rm_rn rfl rfl (Nat.le_of_ble_eq_true rfl) ?_
  show Rn G mt_X10_paysAsKnown 0 [(0, .ref a0), (1, .ref a1)] [] (M, L, R, K) (some (.int r')) (M', L', R, K)
  unfold n_X10_paysAsKnown at h
  refine rn_iconst (v := 0) zd_X10_paysAsKnown_0.1.1.1.1 rfl ?_
  refine rn_istore_n (q := 2) (ls' := [(2, .int (0 : Int32)), (0, .ref a0), (1, .ref a1)]) (by decide) rfl zd_X10_paysAsKnown_0.1.1.1.2 ?_
  obtain ⟨e8, he8, h⟩ := zbd_e h
  refine rn_sub (ls' := [(0, .ref a0), (1, .ref a1), (2, .int (0 : Int32))]) [1, 2, 0] rfl (zloop_ok (P := P_X10_paysAsKnown_2 G K R L a0 a1 (some (.int r')) (M', L', R, K)) (Q := Q_X10_paysAsKnown_2 G K R L a0 a1 (some (.int r')) (M', L', R, K)) (fun v x hx hq => ok_b_X10_paysAsKnown_2 hW k_a0 k_a1 hx hq) _ _ _ he8 ?_)
  show Rn G mt_X10_paysAsKnown 40 [(0, .ref a0), (1, .ref a1)] [] (e8, L, R, K) (some (.int r')) (M', L', R, K)
  refine rn_iconst (v := 0) zd_X10_paysAsKnown_1.1.2.1.2 rfl ?_
  refine rn_istore_n (q := 2) (ls' := [(2, .int (0 : Int32)), (0, .ref a0), (1, .ref a1)]) (by decide) rfl zd_X10_paysAsKnown_1.1.2.2.1 ?_
  obtain ⟨e28, he28, h⟩ := zbd_e h
  refine rn_sub (ls' := [(0, .ref a0), (1, .ref a1), (2, .int (0 : Int32))]) [1, 2, 0] rfl (zloop_ok (P := P_X10_paysAsKnown_42 G K R a0 a1 (some (.int r')) (M', L', R, K)) (Q := Q_X10_paysAsKnown_42 G K R a0 a1 (some (.int r')) (M', L', R, K)) (fun v x hx hq => ok_b_X10_paysAsKnown_42 hW k_a0 k_a1 hx hq) _ _ _ he28 ?_)
  rcases e28 with e29 | e30
  · rw [Sum.elim_inl] at h
    show Rn G mt_X10_paysAsKnown 117 [] [] (e29.1, e29.2, R, K) (some (.int r')) (M', L', R, K)
    refine rn_iconst (v := 0) zd_X10_paysAsKnown_3.2.2.2.2 rfl ?_
    cases h
    exact rn_zret zd_X10_paysAsKnown_4.1.1.1 rfl rfl
  · rw [Sum.elim_inr] at h
    show Rn G mt_X10_paysAsKnown 141 [] [] (e30.1, e30.2, R, K) (some (.int r')) (M', L', R, K)
    refine rn_iconst (v := 1) zd_X10_paysAsKnown_4.2.2.2.1 rfl ?_
    cases h
    exact rn_zret zd_X10_paysAsKnown_4.2.2.2.2 rfl rfl
abbrev P_X10_startRows_2 (G : zG) (K : zK) (R : zR) (L : zL) (a0 : Nat) (x1 : Int32) (r : Option Value) (S' : zS) (v : Int32 × zM) : Prop := Rn G mt_X10_startRows 2 [(0, .ref a0), (1, .int x1), (2, .int v.1)] [] (v.2, L, R, K) r S'
abbrev Q_X10_startRows_2 (G : zG) (K : zK) (R : zR) (L : zL) (a0 : Nat) (x1 : Int32) (r : Option Value) (S' : zS) : (zM) ⊕ (zM) → Prop := (Sum.elim (fun e => Rn G mt_X10_startRows 29 [] [] (e, L, R, K) r S') (fun e => Rn G mt_X10_startRows 49 [] [] (e, L, R, K) r S'))
def b_X10_startRows_2 (R : zR) (M : zM) (a0 : Nat) (x1 : Int32) (x2 : Int32) : Option ((Int32 × zM) ⊕ ((zM) ⊕ (zM))) :=
  if (10 : Int32) ≤ x2 then (
    some (.inr (.inr M))
  ) else (
    zbd (f_X6_has M (R a0 5) x2) fun r2 =>
    if r2 = 0 then (
      some (.inr (.inr M))
    ) else (
      zck (zin x2 10) <|
      if (M (R a0 3) (ztn x2)) ≤ x1 then (
        zck (zin x2 10) <|
        zck (zin x2 10) <|
        zlt (zup M (R a0 4) (ztn x2) (M (R a0 3) (ztn x2))) fun M9 =>
        some (.inl ((x2 + 1), M9))
      ) else (
        some (.inr (.inl M))
      )
    )
  )
set_option maxRecDepth 4000 in
theorem ok_b_X10_startRows_2 {G : zG} {K : zK} {R : zR} {M : zM} {L : zL} (hW : zWT R K) {a0 : Nat} {x1 : Int32} {x2 : Int32} (k_a0 : K[a0]? = some (10, 11)) {r : Option Value} {S' : zS} {x : (Int32 × zM) ⊕ ((zM) ⊕ (zM))} (h : b_X10_startRows_2 R M a0 x1 x2 = some x) (hk : Sum.elim (P_X10_startRows_2 G K R L a0 x1 r S') (Q_X10_startRows_2 G K R L a0 x1 r S') x) : P_X10_startRows_2 G K R L a0 x1 r S' (x2, M) := by
  show Rn G mt_X10_startRows 2 [(0, .ref a0), (1, .int x1), (2, .int x2)] [] (M, L, R, K) r S'
  unfold b_X10_startRows_2 at h
  refine rn_iload_n (q := 2) 2 rfl zd_X10_startRows_0.1.1.2.1 ?_
  refine rn_bipush (v := 10) zd_X10_startRows_0.1.1.2.2 rfl ?_
  rcases zif_e h with ⟨hc1, h⟩ | ⟨hc1, h⟩
  · refine rn_icmp_ge_t (tgt := 49) hc1 zd_X10_startRows_0.1.2.1.1 rfl ?_
    cases h
    exact rn_sub (ls' := []) [] rfl hk
  · refine rn_icmp_ge_f (tgt := 49) hc1 zd_X10_startRows_0.1.2.1.1 rfl ?_
    refine rn_aload_n (q := 0) 0 rfl zd_X10_startRows_0.1.2.1.2 ?_
    refine rn_getR zf_X10_30 (Or.inl ⟨_, rfl⟩) k_a0 (zx_10_5 hW k_a0) zd_X10_startRows_0.1.2.2.1 ?_
    refine rn_iload_n (q := 2) 2 rfl zd_X10_startRows_0.1.2.2.2 ?_
    obtain ⟨r2, h3, h⟩ := zbd_e h
    refine rn_callVi (As := [.int x2]) (rest := []) zl_X10_42 zm_X6_has ⟨by decide, by decide⟩ (ci := 6) rfl rfl (by decide) (zw_10_5 hW k_a0) rfl rfl (Nat.le_of_ble_eq_true rfl) zd_X10_startRows_0.2.1.1.1 (ok_X6_has hW (zw_10_5 hW k_a0) h3) ?_
    rcases zif_e h with ⟨hc4, h⟩ | ⟨hc4, h⟩
    · refine rn_if_eq_t (tgt := 49) hc4 zd_X10_startRows_0.2.1.1.2 rfl ?_
      cases h
      exact rn_sub (ls' := []) [] rfl hk
    · refine rn_if_eq_f (tgt := 49) hc4 zd_X10_startRows_0.2.1.1.2 rfl ?_
      refine rn_aload_n (q := 0) 0 rfl zd_X10_startRows_0.2.1.2.1 ?_
      refine rn_getR zf_X10_21 (Or.inr ⟨_, rfl⟩) k_a0 (zx_10_3 hW k_a0) zd_X10_startRows_0.2.1.2.2 ?_
      refine rn_iload_n (q := 2) 2 rfl zd_X10_startRows_0.2.2.1.1 ?_
      obtain ⟨hc5, h⟩ := zck_e h
      refine rn_iald (zw_10_3 hW k_a0) hc5 zd_X10_startRows_0.2.2.1.2 ?_
      refine rn_iload_n (q := 1) 1 rfl zd_X10_startRows_0.2.2.2.1 ?_
      rcases zif_e h with ⟨hc6, h⟩ | ⟨hc6, h⟩
      · refine rn_icmp_le_t (tgt := 31) hc6 zd_X10_startRows_0.2.2.2.2 rfl ?_
        refine rn_aload_n (q := 0) 0 rfl zd_X10_startRows_1.1.1.2.2 ?_
        refine rn_getR zf_X10_24 (Or.inr ⟨_, rfl⟩) k_a0 (zx_10_4 hW k_a0) zd_X10_startRows_1.1.2.1.1 ?_
        refine rn_iload_n (q := 2) 2 rfl zd_X10_startRows_1.1.2.1.2 ?_
        refine rn_aload_n (q := 0) 0 rfl zd_X10_startRows_1.1.2.2.1 ?_
        refine rn_getR zf_X10_21 (Or.inr ⟨_, rfl⟩) k_a0 (zx_10_3 hW k_a0) zd_X10_startRows_1.1.2.2.2 ?_
        refine rn_iload_n (q := 2) 2 rfl zd_X10_startRows_1.2.1.1 ?_
        obtain ⟨hc7, h⟩ := zck_e h
        refine rn_iald (zw_10_3 hW k_a0) hc7 zd_X10_startRows_1.2.1.2.1 ?_
        obtain ⟨hc8, h⟩ := zck_e h
        obtain ⟨M9, hM9, h⟩ := zlt_e h
        refine rn_iast hM9 (zw_10_4 hW k_a0) hc8 zd_X10_startRows_1.2.1.2.2 ?_
        refine rn_iinc (v := (x2 + 1)) (ls' := [(2, .int (x2 + 1)), (0, .ref a0), (1, .int x1)]) 2 rfl rfl (by decide) rfl zd_X10_startRows_1.2.2.1.1 ?_
        refine rn_goto (tgt := 2) zd_X10_startRows_1.2.2.1.2 rfl ?_
        cases h
        exact rn_sub (ls' := [(0, .ref a0), (1, .int x1), (2, .int (x2 + 1))]) [1, 2, 0] rfl hk
      · refine rn_icmp_le_f (tgt := 31) hc6 zd_X10_startRows_0.2.2.2.2 rfl ?_
        cases h
        exact rn_sub (ls' := []) [] rfl hk
def f_X10_startRows (R : zR) (M : zM) (a0 : Nat) (x1 : Int32) : Option (Int32 × zM) :=
  zbd (zloop zN (fun v => b_X10_startRows_2 R v.2 a0 x1 v.1) ((0 : Int32), M)) fun e10 =>
  Sum.elim (fun e11 =>
    some ((0 : Int32), e11)
  ) (fun e12 =>
    some ((1 : Int32), e12)
  ) e10
set_option maxRecDepth 4000 in
theorem ok_X10_startRows {G : zG} {K : zK} {R : zR} {M : zM} {L : zL} (hW : zWT R K) {a0 : Nat} {x1 : Int32} (k_a0 : K[a0]? = some (10, 11)) {r' : Int32} {M' : zM} (h : f_X10_startRows R M a0 x1 = some (r', M')) : Rm G mt_X10_startRows [.ref a0, .int x1] (M, L, R, K) (some (.int r')) (M', L, R, K) := by
  refine rm_rn rfl rfl (Nat.le_of_ble_eq_true rfl) ?_
  show Rn G mt_X10_startRows 0 [(0, .ref a0), (1, .int x1)] [] (M, L, R, K) (some (.int r')) (M', L, R, K)
  unfold f_X10_startRows at h
  refine rn_iconst (v := 0) zd_X10_startRows_0.1.1.1.1 rfl ?_
  refine rn_istore_n (q := 2) (ls' := [(2, .int (0 : Int32)), (0, .ref a0), (1, .int x1)]) (by decide) rfl zd_X10_startRows_0.1.1.1.2 ?_
  obtain ⟨e10, he10, h⟩ := zbd_e h
  refine rn_sub (ls' := [(0, .ref a0), (1, .int x1), (2, .int (0 : Int32))]) [1, 2, 0] rfl (zloop_ok (P := P_X10_startRows_2 G K R L a0 x1 (some (.int r')) (M', L, R, K)) (Q := Q_X10_startRows_2 G K R L a0 x1 (some (.int r')) (M', L, R, K)) (fun v x hx hq => ok_b_X10_startRows_2 hW k_a0 hx hq) _ _ _ he10 ?_)
  rcases e10 with e11 | e12
  · rw [Sum.elim_inl] at h
    show Rn G mt_X10_startRows 29 [] [] (e11, L, R, K) (some (.int r')) (M', L, R, K)
    refine rn_iconst (v := 0) zd_X10_startRows_1.1.1.1 rfl ?_
    cases h
    exact rn_zret zd_X10_startRows_1.1.1.2.1 rfl rfl
  · rw [Sum.elim_inr] at h
    show Rn G mt_X10_startRows 49 [] [] (e12, L, R, K) (some (.int r')) (M', L, R, K)
    refine rn_iconst (v := 1) zd_X10_startRows_1.2.2.2.1 rfl ?_
    cases h
    exact rn_zret zd_X10_startRows_1.2.2.2.2 rfl rfl
abbrev P_X10_stepRow_2 (G : zG) (K : zK) (R : zR) (L : zL) (a0 : Nat) (x1 : Int32) (r : Option Value) (S' : zS) (v : Int32 × zM) : Prop := Rn G mt_X10_stepRow 2 [(0, .ref a0), (1, .int x1), (2, .int v.1)] [] (v.2, L, R, K) r S'
abbrev Q_X10_stepRow_2 (G : zG) (K : zK) (R : zR) (L : zL) (a0 : Nat) (x1 : Int32) (r : Option Value) (S' : zS) : (Int32 × zM) ⊕ (zM) → Prop := (Sum.elim (fun e => Rn G mt_X10_stepRow 29 [(0, .ref a0), (2, .int e.1)] [] (e.2, L, R, K) r S') (fun e => Rn G mt_X10_stepRow 59 [] [] (e, L, R, K) r S'))
def b_X10_stepRow_2 (R : zR) (M : zM) (a0 : Nat) (x1 : Int32) (x2 : Int32) : Option ((Int32 × zM) ⊕ ((Int32 × zM) ⊕ (zM))) :=
  if (10 : Int32) ≤ x2 then (
    some (.inr (.inr M))
  ) else (
    zbd (f_X6_has M (R a0 5) x2) fun r2 =>
    if r2 = 0 then (
      some (.inr (.inr M))
    ) else (
      zck (zin x2 10) <|
      if x1 ≤ (M (R a0 4) (ztn x2)) then (
        zck (zin x2 10) <|
        zck (zin x2 10) <|
        zlt (zup M (R a0 4) (ztn x2) (M (R a0 3) (ztn x2))) fun M9 =>
        some (.inl ((x2 + 1), M9))
      ) else (
        some (.inr (.inl (x2, M)))
      )
    )
  )
set_option maxRecDepth 4000 in
theorem ok_b_X10_stepRow_2 {G : zG} {K : zK} {R : zR} {M : zM} {L : zL} (hW : zWT R K) {a0 : Nat} {x1 : Int32} {x2 : Int32} (k_a0 : K[a0]? = some (10, 11)) {r : Option Value} {S' : zS} {x : (Int32 × zM) ⊕ ((Int32 × zM) ⊕ (zM))} (h : b_X10_stepRow_2 R M a0 x1 x2 = some x) (hk : Sum.elim (P_X10_stepRow_2 G K R L a0 x1 r S') (Q_X10_stepRow_2 G K R L a0 x1 r S') x) : P_X10_stepRow_2 G K R L a0 x1 r S' (x2, M) := by
  show Rn G mt_X10_stepRow 2 [(0, .ref a0), (1, .int x1), (2, .int x2)] [] (M, L, R, K) r S'
  unfold b_X10_stepRow_2 at h
  refine rn_iload_n (q := 2) 2 rfl zd_X10_stepRow_0.1.1.2.1 ?_
  refine rn_bipush (v := 10) zd_X10_stepRow_0.1.1.2.2 rfl ?_
  rcases zif_e h with ⟨hc1, h⟩ | ⟨hc1, h⟩
  · refine rn_icmp_ge_t (tgt := 59) hc1 zd_X10_stepRow_0.1.2.1.1 rfl ?_
    cases h
    exact rn_sub (ls' := []) [] rfl hk
  · refine rn_icmp_ge_f (tgt := 59) hc1 zd_X10_stepRow_0.1.2.1.1 rfl ?_
    refine rn_aload_n (q := 0) 0 rfl zd_X10_stepRow_0.1.2.1.2 ?_
    refine rn_getR zf_X10_30 (Or.inl ⟨_, rfl⟩) k_a0 (zx_10_5 hW k_a0) zd_X10_stepRow_0.1.2.2.1 ?_
    refine rn_iload_n (q := 2) 2 rfl zd_X10_stepRow_0.1.2.2.2 ?_
    obtain ⟨r2, h3, h⟩ := zbd_e h
    refine rn_callVi (As := [.int x2]) (rest := []) zl_X10_42 zm_X6_has ⟨by decide, by decide⟩ (ci := 6) rfl rfl (by decide) (zw_10_5 hW k_a0) rfl rfl (Nat.le_of_ble_eq_true rfl) zd_X10_stepRow_0.2.1.1.1 (ok_X6_has hW (zw_10_5 hW k_a0) h3) ?_
    rcases zif_e h with ⟨hc4, h⟩ | ⟨hc4, h⟩
    · refine rn_if_eq_t (tgt := 59) hc4 zd_X10_stepRow_0.2.1.1.2 rfl ?_
      cases h
      exact rn_sub (ls' := []) [] rfl hk
    · refine rn_if_eq_f (tgt := 59) hc4 zd_X10_stepRow_0.2.1.1.2 rfl ?_
      refine rn_aload_n (q := 0) 0 rfl zd_X10_stepRow_0.2.1.2.1 ?_
      refine rn_getR zf_X10_24 (Or.inr ⟨_, rfl⟩) k_a0 (zx_10_4 hW k_a0) zd_X10_stepRow_0.2.1.2.2 ?_
      refine rn_iload_n (q := 2) 2 rfl zd_X10_stepRow_0.2.2.1.1 ?_
      obtain ⟨hc5, h⟩ := zck_e h
      refine rn_iald (zw_10_4 hW k_a0) hc5 zd_X10_stepRow_0.2.2.1.2 ?_
      refine rn_iload_n (q := 1) 1 rfl zd_X10_stepRow_0.2.2.2.1 ?_
      rcases zif_e h with ⟨hc6, h⟩ | ⟨hc6, h⟩
      · refine rn_icmp_ge_t (tgt := 41) hc6 zd_X10_stepRow_0.2.2.2.2 rfl ?_
        refine rn_aload_n (q := 0) 0 rfl zd_X10_stepRow_1.2.1.2.1 ?_
        refine rn_getR zf_X10_24 (Or.inr ⟨_, rfl⟩) k_a0 (zx_10_4 hW k_a0) zd_X10_stepRow_1.2.1.2.2 ?_
        refine rn_iload_n (q := 2) 2 rfl zd_X10_stepRow_1.2.2.1.1 ?_
        refine rn_aload_n (q := 0) 0 rfl zd_X10_stepRow_1.2.2.1.2 ?_
        refine rn_getR zf_X10_21 (Or.inr ⟨_, rfl⟩) k_a0 (zx_10_3 hW k_a0) zd_X10_stepRow_1.2.2.2.1 ?_
        refine rn_iload_n (q := 2) 2 rfl zd_X10_stepRow_1.2.2.2.2 ?_
        obtain ⟨hc7, h⟩ := zck_e h
        refine rn_iald (zw_10_3 hW k_a0) hc7 zd_X10_stepRow_2.1.1 ?_
        obtain ⟨hc8, h⟩ := zck_e h
        obtain ⟨M9, hM9, h⟩ := zlt_e h
        refine rn_iast hM9 (zw_10_4 hW k_a0) hc8 zd_X10_stepRow_2.1.2.1 ?_
        refine rn_iinc (v := (x2 + 1)) (ls' := [(2, .int (x2 + 1)), (0, .ref a0), (1, .int x1)]) 2 rfl rfl (by decide) rfl zd_X10_stepRow_2.1.2.2 ?_
        refine rn_goto (tgt := 2) zd_X10_stepRow_2.2.1 rfl ?_
        cases h
        exact rn_sub (ls' := [(0, .ref a0), (1, .int x1), (2, .int (x2 + 1))]) [1, 2, 0] rfl hk
      · refine rn_icmp_ge_f (tgt := 41) hc6 zd_X10_stepRow_0.2.2.2.2 rfl ?_
        cases h
        exact rn_sub (ls' := [(0, .ref a0), (2, .int x2)]) [0, 2] rfl hk
def f_X10_stepRow (R : zR) (M : zM) (a0 : Nat) (x1 : Int32) : Option (Int32 × zM) :=
  zbd (zloop zN (fun v => b_X10_stepRow_2 R v.2 a0 x1 v.1) ((0 : Int32), M)) fun e10 =>
  Sum.elim (fun e11 =>
    zck (zin e11.1 10) <|
    zck (zin e11.1 10) <|
    zlt (zup e11.2 (R a0 4) (ztn e11.1) ((e11.2 (R a0 4) (ztn e11.1)) + (1 : Int32))) fun M15 =>
    some ((1 : Int32), M15)
  ) (fun e12 =>
    some ((0 : Int32), e12)
  ) e10
set_option maxRecDepth 4000 in
theorem ok_X10_stepRow {G : zG} {K : zK} {R : zR} {M : zM} {L : zL} (hW : zWT R K) {a0 : Nat} {x1 : Int32} (k_a0 : K[a0]? = some (10, 11)) {r' : Int32} {M' : zM} (h : f_X10_stepRow R M a0 x1 = some (r', M')) : Rm G mt_X10_stepRow [.ref a0, .int x1] (M, L, R, K) (some (.int r')) (M', L, R, K) := by
  refine rm_rn rfl rfl (Nat.le_of_ble_eq_true rfl) ?_
  show Rn G mt_X10_stepRow 0 [(0, .ref a0), (1, .int x1)] [] (M, L, R, K) (some (.int r')) (M', L, R, K)
  unfold f_X10_stepRow at h
  refine rn_iconst (v := 0) zd_X10_stepRow_0.1.1.1.1 rfl ?_
  refine rn_istore_n (q := 2) (ls' := [(2, .int (0 : Int32)), (0, .ref a0), (1, .int x1)]) (by decide) rfl zd_X10_stepRow_0.1.1.1.2 ?_
  obtain ⟨e10, he10, h⟩ := zbd_e h
  refine rn_sub (ls' := [(0, .ref a0), (1, .int x1), (2, .int (0 : Int32))]) [1, 2, 0] rfl (zloop_ok (P := P_X10_stepRow_2 G K R L a0 x1 (some (.int r')) (M', L, R, K)) (Q := Q_X10_stepRow_2 G K R L a0 x1 (some (.int r')) (M', L, R, K)) (fun v x hx hq => ok_b_X10_stepRow_2 hW k_a0 hx hq) _ _ _ he10 ?_)
  rcases e10 with e11 | e12
  · rw [Sum.elim_inl] at h
    show Rn G mt_X10_stepRow 29 [(0, .ref a0), (2, .int e11.1)] [] (e11.2, L, R, K) (some (.int r')) (M', L, R, K)
    refine rn_aload_n (q := 0) 0 rfl zd_X10_stepRow_1.1.1.1.1 ?_
    refine rn_getR zf_X10_24 (Or.inr ⟨_, rfl⟩) k_a0 (zx_10_4 hW k_a0) zd_X10_stepRow_1.1.1.1.2 ?_
    refine rn_iload_n (q := 2) 1 rfl zd_X10_stepRow_1.1.1.2.1 ?_
    refine rn_dup2 zd_X10_stepRow_1.1.1.2.2 rfl rfl ?_
    obtain ⟨hc13, h⟩ := zck_e h
    refine rn_iald (zw_10_4 hW k_a0) hc13 zd_X10_stepRow_1.1.2.1.1 ?_
    refine rn_iconst (v := 1) zd_X10_stepRow_1.1.2.1.2 rfl ?_
    refine rn_iadd zd_X10_stepRow_1.1.2.2.1 ?_
    obtain ⟨hc14, h⟩ := zck_e h
    obtain ⟨M15, hM15, h⟩ := zlt_e h
    refine rn_iast hM15 (zw_10_4 hW k_a0) hc14 zd_X10_stepRow_1.1.2.2.2 ?_
    refine rn_iconst (v := 1) zd_X10_stepRow_1.2.1.1.1 rfl ?_
    cases h
    exact rn_zret zd_X10_stepRow_1.2.1.1.2 rfl rfl
  · rw [Sum.elim_inr] at h
    show Rn G mt_X10_stepRow 59 [] [] (e12, L, R, K) (some (.int r')) (M', L, R, K)
    refine rn_iconst (v := 0) zd_X10_stepRow_2.2.2.1 rfl ?_
    cases h
    exact rn_zret zd_X10_stepRow_2.2.2.2 rfl rfl
abbrev P_X10_goThrough_26 (G : zG) (K : zK) (R : zR) (L : zL) (a0 : Nat) (a1 : Nat) (a2 : Nat) (x3 : Int32) (x4 : Int32) (x5 : Int32) (r : Option Value) (S' : zS) (v : Int32 × zM) : Prop := Rn G mt_X10_goThrough 26 [(0, .ref a0), (1, .ref a1), (2, .ref a2), (3, .int x3), (4, .int x4), (5, .int x5), (6, .int v.1)] [] (v.2, L, R, K) r S'
abbrev Q_X10_goThrough_26 (G : zG) (K : zK) (R : zR) (L : zL) (a0 : Nat) (a1 : Nat) (a2 : Nat) (x3 : Int32) (x4 : Int32) (x5 : Int32) (r : Option Value) (S' : zS) : (zM) → Prop := (fun e => Rn G mt_X10_goThrough 62 [(0, .ref a0), (1, .ref a1), (2, .ref a2), (3, .int x3), (4, .int x4), (5, .int x5)] [] (e, L, R, K) r S')
def nb_X10_goThrough_26 (R : zR) (M : zM) (L : zL) (a0 : Nat) (a1 : Nat) (a2 : Nat) (x3 : Int32) (x4 : Int32) (x5 : Int32) (x6 : Int32) : Option ((Int32 × zM) ⊕ ((zM))) :=
  if (10 : Int32) ≤ x6 then (
    some (.inr M)
  ) else (
    zbd (f_X6_has M (R a0 5) x6) fun r8 =>
    if r8 = 0 then (
      some (.inr M)
    ) else (
      zck (zin x6 10) <|
      zlt (zup M (R (R a0 5) 1) (ztn x6) (0 : Int32)) fun M12 =>
      some (.inl ((x6 + 1), M12))
    )
  )
set_option maxRecDepth 4000 in
theorem ok_b_X10_goThrough_26 {G : zG} {K : zK} {R : zR} {M : zM} {L : zL} (hW : zWT R K) {a0 : Nat} {a1 : Nat} {a2 : Nat} {x3 : Int32} {x4 : Int32} {x5 : Int32} {x6 : Int32} (k_a0 : K[a0]? = some (10, 11)) (k_a1 : K[a1]? = some (7, 11)) (k_a2 : K[a2]? = some (6, 8)) {r : Option Value} {S' : zS} {x : (Int32 × zM) ⊕ ((zM))} (h : nb_X10_goThrough_26 R M L a0 a1 a2 x3 x4 x5 x6 = some x) (hk : Sum.elim (P_X10_goThrough_26 G K R L a0 a1 a2 x3 x4 x5 r S') (Q_X10_goThrough_26 G K R L a0 a1 a2 x3 x4 x5 r S') x) : P_X10_goThrough_26 G K R L a0 a1 a2 x3 x4 x5 r S' (x6, M) := by
  show Rn G mt_X10_goThrough 26 [(0, .ref a0), (1, .ref a1), (2, .ref a2), (3, .int x3), (4, .int x4), (5, .int x5), (6, .int x6)] [] (M, L, R, K) r S'
  unfold nb_X10_goThrough_26 at h
  refine rn_iload 6 rfl zd_X10_goThrough_0.2.2.2.2 ?_
  refine rn_bipush (v := 10) zd_X10_goThrough_1.1.1.1.1 rfl ?_
  rcases zif_e h with ⟨hc7, h⟩ | ⟨hc7, h⟩
  · refine rn_icmp_ge_t (tgt := 62) hc7 zd_X10_goThrough_1.1.1.1.2 rfl ?_
    cases h
    exact rn_sub (ls' := [(0, .ref a0), (1, .ref a1), (2, .ref a2), (3, .int x3), (4, .int x4), (5, .int x5)]) [0, 1, 2, 3, 4, 5] rfl hk
  · refine rn_icmp_ge_f (tgt := 62) hc7 zd_X10_goThrough_1.1.1.1.2 rfl ?_
    refine rn_aload_n (q := 0) 0 rfl zd_X10_goThrough_1.1.1.2.1 ?_
    refine rn_getR zf_X10_30 (Or.inl ⟨_, rfl⟩) k_a0 (zx_10_5 hW k_a0) zd_X10_goThrough_1.1.1.2.2 ?_
    refine rn_iload 6 rfl zd_X10_goThrough_1.1.2.1.1 ?_
    obtain ⟨r8, h9, h⟩ := zbd_e h
    refine rn_callVi (As := [.int x6]) (rest := []) zl_X10_42 zm_X6_has ⟨by decide, by decide⟩ (ci := 6) rfl rfl (by decide) (zw_10_5 hW k_a0) rfl rfl (Nat.le_of_ble_eq_true rfl) zd_X10_goThrough_1.1.2.1.2 (ok_X6_has hW (zw_10_5 hW k_a0) h9) ?_
    rcases zif_e h with ⟨hc10, h⟩ | ⟨hc10, h⟩
    · refine rn_if_eq_t (tgt := 62) hc10 zd_X10_goThrough_1.1.2.2.1 rfl ?_
      cases h
      exact rn_sub (ls' := [(0, .ref a0), (1, .ref a1), (2, .ref a2), (3, .int x3), (4, .int x4), (5, .int x5)]) [0, 1, 2, 3, 4, 5] rfl hk
    · refine rn_if_eq_f (tgt := 62) hc10 zd_X10_goThrough_1.1.2.2.1 rfl ?_
      refine rn_aload_n (q := 0) 0 rfl zd_X10_goThrough_1.1.2.2.2 ?_
      refine rn_getR zf_X10_30 (Or.inl ⟨_, rfl⟩) k_a0 (zx_10_5 hW k_a0) zd_X10_goThrough_1.2.1.1.1 ?_
      refine rn_getR zf_X10_74 (Or.inr ⟨_, rfl⟩) (zw_10_5 hW k_a0) (zx_6_1 hW (zw_10_5 hW k_a0)) zd_X10_goThrough_1.2.1.1.2 ?_
      refine rn_iload 6 rfl zd_X10_goThrough_1.2.1.2.1 ?_
      refine rn_iconst (v := 0) zd_X10_goThrough_1.2.1.2.2 rfl ?_
      obtain ⟨hc11, h⟩ := zck_e h
      obtain ⟨M12, hM12, h⟩ := zlt_e h
      refine rn_iast hM12 (zw_6_1 hW (zw_10_5 hW k_a0)) hc11 zd_X10_goThrough_1.2.2.1.1 ?_
      refine rn_iinc (v := (x6 + 1)) (ls' := [(6, .int (x6 + 1)), (0, .ref a0), (1, .ref a1), (2, .ref a2), (3, .int x3), (4, .int x4), (5, .int x5)]) 6 rfl rfl (by decide) rfl zd_X10_goThrough_1.2.2.1.2 ?_
      refine rn_goto (tgt := 26) zd_X10_goThrough_1.2.2.2.1 rfl ?_
      cases h
      exact rn_sub (ls' := [(0, .ref a0), (1, .ref a1), (2, .ref a2), (3, .int x3), (4, .int x4), (5, .int x5), (6, .int (x6 + 1))]) [1, 2, 3, 4, 5, 6, 0] rfl hk
abbrev P_X10_goThrough_72 (G : zG) (K : zK) (R : zR) (a0 : Nat) (a1 : Nat) (a2 : Nat) (x3 : Int32) (x4 : Int32) (x5 : Int32) (r : Option Value) (S' : zS) (v : Int32 × Int32 × zM × zL) : Prop := Rn G mt_X10_goThrough 72 [(0, .ref a0), (1, .ref a1), (2, .ref a2), (3, .int x3), (4, .int x4), (5, .int x5), (6, .int v.1), (7, .int v.2.1)] [] (v.2.2.1, v.2.2.2, R, K) r S'
abbrev Q_X10_goThrough_72 (G : zG) (K : zK) (R : zR) (a0 : Nat) (a1 : Nat) (a2 : Nat) (x3 : Int32) (x4 : Int32) (x5 : Int32) (r : Option Value) (S' : zS) : (zM × zL) → Prop := (fun e => Rn G mt_X10_goThrough 177 [] [] (e.1, e.2, R, K) r S')
abbrev P_X10_goThrough_87 (G : zG) (K : zK) (R : zR) (L : zL) (a0 : Nat) (a1 : Nat) (a2 : Nat) (x3 : Int32) (x4 : Int32) (x5 : Int32) (x7 : Int32) (r : Option Value) (S' : zS) (v : Int32 × zM) : Prop := Rn G mt_X10_goThrough 87 [(0, .ref a0), (1, .ref a1), (2, .ref a2), (3, .int x3), (4, .int x4), (5, .int x5), (7, .int x7), (8, .int v.1)] [] (v.2, L, R, K) r S'
abbrev Q_X10_goThrough_87 (G : zG) (K : zK) (R : zR) (L : zL) (a0 : Nat) (a1 : Nat) (a2 : Nat) (x3 : Int32) (x4 : Int32) (x5 : Int32) (x7 : Int32) (r : Option Value) (S' : zS) : (zM) → Prop := (fun e => Rn G mt_X10_goThrough 139 [(0, .ref a0), (1, .ref a1), (2, .ref a2), (3, .int x3), (4, .int x4), (5, .int x5), (7, .int x7)] [] (e, L, R, K) r S')
def nb_X10_goThrough_87 (R : zR) (M : zM) (L : zL) (a0 : Nat) (a1 : Nat) (a2 : Nat) (x3 : Int32) (x4 : Int32) (x5 : Int32) (x7 : Int32) (x8 : Int32) : Option ((Int32 × zM) ⊕ ((zM))) :=
  if x5 = 0 then (
    some (.inr M)
  ) else (
    if (10 : Int32) ≤ x8 then (
      some (.inr M)
    ) else (
      zbd (f_X6_has M (R a0 5) x8) fun r21 =>
      if r21 = 0 then (
        some (.inr M)
      ) else (
        zck (zin x8 10) <|
        zck (zin x8 10) <|
        zck (zin x8 10) <|
        zlt (zup M (R a0 2) (ztn x8) ((M (R a0 4) (ztn x8)) - (M (R a0 3) (ztn x8)))) fun M27 =>
        some (.inl ((x8 + 1), M27))
      )
    )
  )
set_option maxRecDepth 4000 in
theorem ok_b_X10_goThrough_87 {G : zG} {K : zK} {R : zR} {M : zM} {L : zL} (hW : zWT R K) {a0 : Nat} {a1 : Nat} {a2 : Nat} {x3 : Int32} {x4 : Int32} {x5 : Int32} {x7 : Int32} {x8 : Int32} (k_a0 : K[a0]? = some (10, 11)) (k_a1 : K[a1]? = some (7, 11)) (k_a2 : K[a2]? = some (6, 8)) {r : Option Value} {S' : zS} {x : (Int32 × zM) ⊕ ((zM))} (h : nb_X10_goThrough_87 R M L a0 a1 a2 x3 x4 x5 x7 x8 = some x) (hk : Sum.elim (P_X10_goThrough_87 G K R L a0 a1 a2 x3 x4 x5 x7 r S') (Q_X10_goThrough_87 G K R L a0 a1 a2 x3 x4 x5 x7 r S') x) : P_X10_goThrough_87 G K R L a0 a1 a2 x3 x4 x5 x7 r S' (x8, M) := by
  show Rn G mt_X10_goThrough 87 [(0, .ref a0), (1, .ref a1), (2, .ref a2), (3, .int x3), (4, .int x4), (5, .int x5), (7, .int x7), (8, .int x8)] [] (M, L, R, K) r S'
  unfold nb_X10_goThrough_87 at h
  refine rn_iload 5 rfl zd_X10_goThrough_2.2.2.1.1 ?_
  rcases zif_e h with ⟨hc19, h⟩ | ⟨hc19, h⟩
  · refine rn_if_eq_t (tgt := 139) hc19 zd_X10_goThrough_2.2.2.1.2 rfl ?_
    cases h
    exact rn_sub (ls' := [(0, .ref a0), (1, .ref a1), (2, .ref a2), (3, .int x3), (4, .int x4), (5, .int x5), (7, .int x7)]) [0, 1, 2, 3, 4, 5, 6] rfl hk
  · refine rn_if_eq_f (tgt := 139) hc19 zd_X10_goThrough_2.2.2.1.2 rfl ?_
    refine rn_iload 7 rfl zd_X10_goThrough_2.2.2.2.1 ?_
    refine rn_bipush (v := 10) zd_X10_goThrough_2.2.2.2.2 rfl ?_
    rcases zif_e h with ⟨hc20, h⟩ | ⟨hc20, h⟩
    · refine rn_icmp_ge_t (tgt := 139) hc20 zd_X10_goThrough_3.1.1.1.1 rfl ?_
      cases h
      exact rn_sub (ls' := [(0, .ref a0), (1, .ref a1), (2, .ref a2), (3, .int x3), (4, .int x4), (5, .int x5), (7, .int x7)]) [0, 1, 2, 3, 4, 5, 6] rfl hk
    · refine rn_icmp_ge_f (tgt := 139) hc20 zd_X10_goThrough_3.1.1.1.1 rfl ?_
      refine rn_aload_n (q := 0) 0 rfl zd_X10_goThrough_3.1.1.1.2 ?_
      refine rn_getR zf_X10_30 (Or.inl ⟨_, rfl⟩) k_a0 (zx_10_5 hW k_a0) zd_X10_goThrough_3.1.1.2.1 ?_
      refine rn_iload 7 rfl zd_X10_goThrough_3.1.1.2.2 ?_
      obtain ⟨r21, h22, h⟩ := zbd_e h
      refine rn_callVi (As := [.int x8]) (rest := []) zl_X10_42 zm_X6_has ⟨by decide, by decide⟩ (ci := 6) rfl rfl (by decide) (zw_10_5 hW k_a0) rfl rfl (Nat.le_of_ble_eq_true rfl) zd_X10_goThrough_3.1.2.1.1 (ok_X6_has hW (zw_10_5 hW k_a0) h22) ?_
      rcases zif_e h with ⟨hc23, h⟩ | ⟨hc23, h⟩
      · refine rn_if_eq_t (tgt := 139) hc23 zd_X10_goThrough_3.1.2.1.2 rfl ?_
        cases h
        exact rn_sub (ls' := [(0, .ref a0), (1, .ref a1), (2, .ref a2), (3, .int x3), (4, .int x4), (5, .int x5), (7, .int x7)]) [0, 1, 2, 3, 4, 5, 6] rfl hk
      · refine rn_if_eq_f (tgt := 139) hc23 zd_X10_goThrough_3.1.2.1.2 rfl ?_
        refine rn_aload_n (q := 0) 0 rfl zd_X10_goThrough_3.1.2.2.1 ?_
        refine rn_getR zf_X10_18 (Or.inr ⟨_, rfl⟩) k_a0 (zx_10_2 hW k_a0) zd_X10_goThrough_3.1.2.2.2 ?_
        refine rn_iload 7 rfl zd_X10_goThrough_3.2.1.1.1 ?_
        refine rn_aload_n (q := 0) 0 rfl zd_X10_goThrough_3.2.1.1.2 ?_
        refine rn_getR zf_X10_24 (Or.inr ⟨_, rfl⟩) k_a0 (zx_10_4 hW k_a0) zd_X10_goThrough_3.2.1.2.1 ?_
        refine rn_iload 7 rfl zd_X10_goThrough_3.2.1.2.2 ?_
        obtain ⟨hc24, h⟩ := zck_e h
        refine rn_iald (zw_10_4 hW k_a0) hc24 zd_X10_goThrough_3.2.2.1.1 ?_
        refine rn_aload_n (q := 0) 0 rfl zd_X10_goThrough_3.2.2.1.2 ?_
        refine rn_getR zf_X10_21 (Or.inr ⟨_, rfl⟩) k_a0 (zx_10_3 hW k_a0) zd_X10_goThrough_3.2.2.2.1 ?_
        refine rn_iload 7 rfl zd_X10_goThrough_3.2.2.2.2 ?_
        obtain ⟨hc25, h⟩ := zck_e h
        refine rn_iald (zw_10_3 hW k_a0) hc25 zd_X10_goThrough_4.1.1.1.1 ?_
        refine rn_isub zd_X10_goThrough_4.1.1.1.2 ?_
        obtain ⟨hc26, h⟩ := zck_e h
        obtain ⟨M27, hM27, h⟩ := zlt_e h
        refine rn_iast hM27 (zw_10_2 hW k_a0) hc26 zd_X10_goThrough_4.1.1.2.1 ?_
        refine rn_iinc (v := (x8 + 1)) (ls' := [(8, .int (x8 + 1)), (0, .ref a0), (1, .ref a1), (2, .ref a2), (3, .int x3), (4, .int x4), (5, .int x5), (7, .int x7)]) 7 rfl rfl (by decide) rfl zd_X10_goThrough_4.1.1.2.2 ?_
        refine rn_goto (tgt := 87) zd_X10_goThrough_4.1.2.1.1 rfl ?_
        cases h
        exact rn_sub (ls' := [(0, .ref a0), (1, .ref a1), (2, .ref a2), (3, .int x3), (4, .int x4), (5, .int x5), (7, .int x7), (8, .int (x8 + 1))]) [1, 2, 3, 4, 5, 6, 7, 0] rfl hk
def nj_X10_goThrough_164 (R : zR) (M : zM) (L : zL) (a0 : Nat) (a1 : Nat) (a2 : Nat) (x3 : Int32) (x4 : Int32) (x5 : Int32) (x7 : Int32) : Option ((Int32 × Int32 × zM × zL) ⊕ ((zM × zL))) :=
  zbd2 (f_X10_stepRow R M a0 x3) fun r35 M36 =>
  some (.inl (r35, (x7 + 1), M36, L))
set_option maxRecDepth 4000 in
theorem ok_j_X10_goThrough_164 {G : zG} {K : zK} {R : zR} {M : zM} {L : zL} (hW : zWT R K) {a0 : Nat} {a1 : Nat} {a2 : Nat} {x3 : Int32} {x4 : Int32} {x5 : Int32} {x7 : Int32} (k_a0 : K[a0]? = some (10, 11)) (k_a1 : K[a1]? = some (7, 11)) (k_a2 : K[a2]? = some (6, 8)) {r : Option Value} {S' : zS} {x : (Int32 × Int32 × zM × zL) ⊕ ((zM × zL))} (h : nj_X10_goThrough_164 R M L a0 a1 a2 x3 x4 x5 x7 = some x) (hk : Sum.elim (P_X10_goThrough_72 G K R a0 a1 a2 x3 x4 x5 r S') (Q_X10_goThrough_72 G K R a0 a1 a2 x3 x4 x5 r S') x) : Rn G mt_X10_goThrough 164 [(0, .ref a0), (1, .ref a1), (2, .ref a2), (3, .int x3), (4, .int x4), (5, .int x5), (7, .int x7)] [] (M, L, R, K) r S' := by
  unfold nj_X10_goThrough_164 at h
  refine rn_aload_n (q := 0) 0 rfl zd_X10_goThrough_5.1.1.2 ?_
  refine rn_iload_n (q := 3) 3 rfl zd_X10_goThrough_5.1.2.1 ?_
  obtain ⟨r35, M36, h37, h⟩ := zbd2_e h
  refine rn_callVi (As := [.int x3]) (rest := []) zl_X10_91 zm_X10_stepRow ⟨by decide, by decide⟩ (ci := 10) rfl rfl (by decide) k_a0 rfl rfl (Nat.le_of_ble_eq_true rfl) zd_X10_goThrough_5.1.2.2 (ok_X10_stepRow hW k_a0 h37) ?_
  refine rn_istore (ls' := [(6, .int r35), (0, .ref a0), (1, .ref a1), (2, .ref a2), (3, .int x3), (4, .int x4), (5, .int x5), (7, .int x7)]) (by decide) rfl zd_X10_goThrough_5.2.1.1 ?_
  refine rn_iinc (v := (x7 + 1)) (ls' := [(7, .int (x7 + 1)), (6, .int r35), (0, .ref a0), (1, .ref a1), (2, .ref a2), (3, .int x3), (4, .int x4), (5, .int x5)]) 7 rfl rfl (by decide) rfl zd_X10_goThrough_5.2.1.2 ?_
  refine rn_goto (tgt := 72) zd_X10_goThrough_5.2.2.1 rfl ?_
  cases h
  exact rn_sub (ls' := [(0, .ref a0), (1, .ref a1), (2, .ref a2), (3, .int x3), (4, .int x4), (5, .int x5), (6, .int r35), (7, .int (x7 + 1))]) [2, 3, 4, 5, 6, 7, 1, 0] rfl hk
def nb_X10_goThrough_72 (R : zR) (M : zM) (L : zL) (a0 : Nat) (a1 : Nat) (a2 : Nat) (x3 : Int32) (x4 : Int32) (x5 : Int32) (x6 : Int32) (x7 : Int32) : Option ((Int32 × Int32 × zM × zL) ⊕ ((zM × zL))) :=
  if (200000 : Int32) ≤ x7 then (
    some (.inr (M, L))
  ) else (
    if x6 = 0 then (
      some (.inr (M, L))
    ) else (
      zbd (zloop zN (fun v => nb_X10_goThrough_87 R v.2 L a0 a1 a2 x3 x4 x5 x7 v.1) ((0 : Int32), M)) fun e28 =>
      zlt (zup e28 (R a0 5) 5 (e28 a2 5)) fun M29 =>
      zbd3 (n_X10_paysAsKnown R M29 L a0 a1) fun r30 M31 L32 =>
      if r30 = 0 then (
        nj_X10_goThrough_164 R M31 L32 a0 a1 a2 x3 x4 x5 x7
      ) else (
        zbd (f_X10_note R M31 a0 x4) fun M38 =>
        nj_X10_goThrough_164 R M38 L32 a0 a1 a2 x3 x4 x5 x7
      )
    )
  )
set_option maxRecDepth 4000 in
theorem ok_b_X10_goThrough_72 {G : zG} {K : zK} {R : zR} {M : zM} {L : zL} (hW : zWT R K) {a0 : Nat} {a1 : Nat} {a2 : Nat} {x3 : Int32} {x4 : Int32} {x5 : Int32} {x6 : Int32} {x7 : Int32} (k_a0 : K[a0]? = some (10, 11)) (k_a1 : K[a1]? = some (7, 11)) (k_a2 : K[a2]? = some (6, 8)) {r : Option Value} {S' : zS} {x : (Int32 × Int32 × zM × zL) ⊕ ((zM × zL))} (h : nb_X10_goThrough_72 R M L a0 a1 a2 x3 x4 x5 x6 x7 = some x) (hk : Sum.elim (P_X10_goThrough_72 G K R a0 a1 a2 x3 x4 x5 r S') (Q_X10_goThrough_72 G K R a0 a1 a2 x3 x4 x5 r S') x) : P_X10_goThrough_72 G K R a0 a1 a2 x3 x4 x5 r S' (x6, x7, M, L) := by
  show Rn G mt_X10_goThrough 72 [(0, .ref a0), (1, .ref a1), (2, .ref a2), (3, .int x3), (4, .int x4), (5, .int x5), (6, .int x6), (7, .int x7)] [] (M, L, R, K) r S'
  unfold nb_X10_goThrough_72 at h
  refine rn_iload 7 rfl zd_X10_goThrough_2.1.2.1.2 ?_
  refine rn_ldc (v := 200000) zk_X10_38 zd_X10_goThrough_2.1.2.2.1 ?_
  rcases zif_e h with ⟨hc17, h⟩ | ⟨hc17, h⟩
  · refine rn_icmp_ge_t (tgt := 177) hc17 zd_X10_goThrough_2.1.2.2.2 rfl ?_
    cases h
    exact rn_sub (ls' := []) [] rfl hk
  · refine rn_icmp_ge_f (tgt := 177) hc17 zd_X10_goThrough_2.1.2.2.2 rfl ?_
    refine rn_iload 6 rfl zd_X10_goThrough_2.2.1.1.1 ?_
    rcases zif_e h with ⟨hc18, h⟩ | ⟨hc18, h⟩
    · refine rn_if_eq_t (tgt := 177) hc18 zd_X10_goThrough_2.2.1.1.2 rfl ?_
      cases h
      exact rn_sub (ls' := []) [] rfl hk
    · refine rn_if_eq_f (tgt := 177) hc18 zd_X10_goThrough_2.2.1.1.2 rfl ?_
      refine rn_iconst (v := 0) zd_X10_goThrough_2.2.1.2.1 rfl ?_
      refine rn_istore (ls' := [(8, .int (0 : Int32)), (0, .ref a0), (1, .ref a1), (2, .ref a2), (3, .int x3), (4, .int x4), (5, .int x5), (6, .int x6), (7, .int x7)]) (by decide) rfl zd_X10_goThrough_2.2.1.2.2 ?_
      obtain ⟨e28, he28, h⟩ := zbd_e h
      refine rn_sub (ls' := [(0, .ref a0), (1, .ref a1), (2, .ref a2), (3, .int x3), (4, .int x4), (5, .int x5), (7, .int x7), (8, .int (0 : Int32))]) [1, 2, 3, 4, 5, 6, 8, 0] rfl (zloop_ok (P := P_X10_goThrough_87 G K R L a0 a1 a2 x3 x4 x5 x7 r S') (Q := Q_X10_goThrough_87 G K R L a0 a1 a2 x3 x4 x5 x7 r S') (fun v x hx hq => ok_b_X10_goThrough_87 hW k_a0 k_a1 k_a2 hx hq) _ _ _ he28 ?_)
      show Rn G mt_X10_goThrough 139 [(0, .ref a0), (1, .ref a1), (2, .ref a2), (3, .int x3), (4, .int x4), (5, .int x5), (7, .int x7)] [] (e28, L, R, K) r S'
      refine rn_aload_n (q := 0) 0 rfl zd_X10_goThrough_4.1.2.1.2 ?_
      refine rn_getR zf_X10_30 (Or.inl ⟨_, rfl⟩) k_a0 (zx_10_5 hW k_a0) zd_X10_goThrough_4.1.2.2.1 ?_
      refine rn_aload_n (q := 2) 2 rfl zd_X10_goThrough_4.1.2.2.2 ?_
      refine rn_getI zf_X10_80 (Or.inl rfl) k_a2 zd_X10_goThrough_4.2.1.1.1 ?_
      obtain ⟨M29, hM29, h⟩ := zlt_e h
      refine rn_putI hM29 zf_X10_80 (zw_10_5 hW k_a0) zd_X10_goThrough_4.2.1.1.2 ?_
      refine rn_aload_n (q := 0) 0 rfl zd_X10_goThrough_4.2.1.2.1 ?_
      refine rn_aload_n (q := 1) 1 rfl zd_X10_goThrough_4.2.1.2.2 ?_
      obtain ⟨r30, M31, L32, h33, h⟩ := zbd3_e h
      refine rn_callVi (As := [.ref a1]) (rest := []) zl_X10_83 zm_X10_paysAsKnown ⟨by decide, by decide⟩ (ci := 10) rfl rfl (by decide) k_a0 rfl rfl (Nat.le_of_ble_eq_true rfl) zd_X10_goThrough_4.2.2.1.1 (ok_X10_paysAsKnown hW k_a0 k_a1 h33) ?_
      rcases zif_e h with ⟨hc34, h⟩ | ⟨hc34, h⟩
      · refine rn_if_eq_t (tgt := 164) hc34 zd_X10_goThrough_4.2.2.1.2 rfl ?_
        exact rn_sub (ls' := [(0, .ref a0), (1, .ref a1), (2, .ref a2), (3, .int x3), (4, .int x4), (5, .int x5), (7, .int x7)]) [0, 1, 2, 3, 4, 5, 6] rfl (ok_j_X10_goThrough_164 hW k_a0 k_a1 k_a2 h hk)
      · refine rn_if_eq_f (tgt := 164) hc34 zd_X10_goThrough_4.2.2.1.2 rfl ?_
        refine rn_aload_n (q := 0) 0 rfl zd_X10_goThrough_4.2.2.2.1 ?_
        refine rn_iload 4 rfl zd_X10_goThrough_4.2.2.2.2 ?_
        obtain ⟨M38, h39, h⟩ := zbd_e h
        refine rn_callVv (As := [.int x4]) (rest := []) zl_X10_87 zm_X10_note ⟨by decide, by decide⟩ (ci := 10) rfl rfl (by decide) k_a0 rfl rfl (Nat.le_of_ble_eq_true rfl) zd_X10_goThrough_5.1.1.1 (ok_X10_note hW k_a0 h39) ?_
        exact rn_sub (ls' := [(0, .ref a0), (1, .ref a1), (2, .ref a2), (3, .int x3), (4, .int x4), (5, .int x5), (7, .int x7)]) [0, 1, 2, 3, 4, 5, 6] rfl (ok_j_X10_goThrough_164 hW k_a0 k_a1 k_a2 h hk)
def n_X10_goThrough (R : zR) (M : zM) (L : zL) (a0 : Nat) (a1 : Nat) (a2 : Nat) (x3 : Int32) (x4 : Int32) (x5 : Int32) : Option (zM × zL) :=
  zlt (zup M a0 8 (0 : Int32)) fun M1 =>
  zlt (zup M1 a0 9 x3) fun M2 =>
  zlt (zup M2 a0 10 (0 : Int32)) fun M3 =>
  zbd2 (n_X6_copy R M3 L (R a0 5) a2) fun M4 L5 =>
  zbd (zloop zN (fun v => nb_X10_goThrough_26 R v.2 L5 a0 a1 a2 x3 x4 x5 v.1) ((0 : Int32), M4)) fun e13 =>
  zbd2 (f_X10_startRows R e13 a0 x3) fun r14 M15 =>
  zbd (zloop zN (fun v => nb_X10_goThrough_72 R v.2.2.1 v.2.2.2 a0 a1 a2 x3 x4 x5 v.1 v.2.1) (r14, (0 : Int32), M15, L5)) fun e40 =>
  some (e40.1, e40.2)
set_option maxRecDepth 4000 in
theorem ok_X10_goThrough {G : zG} {K : zK} {R : zR} {M : zM} {L : zL} (hW : zWT R K) {a0 : Nat} {a1 : Nat} {a2 : Nat} {x3 : Int32} {x4 : Int32} {x5 : Int32} (k_a0 : K[a0]? = some (10, 11)) (k_a1 : K[a1]? = some (7, 11)) (k_a2 : K[a2]? = some (6, 8)) {M' : zM} {L' : zL} (h : n_X10_goThrough R M L a0 a1 a2 x3 x4 x5 = some (M', L')) : Rm G mt_X10_goThrough [.ref a0, .ref a1, .ref a2, .int x3, .int x4, .int x5] (M, L, R, K) none (M', L', R, K) := by
  refine rm_rn rfl rfl (Nat.le_of_ble_eq_true rfl) ?_
  show Rn G mt_X10_goThrough 0 [(0, .ref a0), (1, .ref a1), (2, .ref a2), (3, .int x3), (4, .int x4), (5, .int x5)] [] (M, L, R, K) none (M', L', R, K)
  unfold n_X10_goThrough at h
  refine rn_aload_n (q := 0) 0 rfl zd_X10_goThrough_0.1.1.1.1 ?_
  refine rn_iconst (v := 0) zd_X10_goThrough_0.1.1.1.2 rfl ?_
  obtain ⟨M1, hM1, h⟩ := zlt_e h
  refine rn_putI hM1 zf_X10_61 k_a0 zd_X10_goThrough_0.1.1.2.1 ?_
  refine rn_aload_n (q := 0) 0 rfl zd_X10_goThrough_0.1.1.2.2 ?_
  refine rn_iload_n (q := 3) 3 rfl zd_X10_goThrough_0.1.2.1.1 ?_
  obtain ⟨M2, hM2, h⟩ := zlt_e h
  refine rn_putI hM2 zf_X10_64 k_a0 zd_X10_goThrough_0.1.2.1.2 ?_
  refine rn_aload_n (q := 0) 0 rfl zd_X10_goThrough_0.1.2.2.1 ?_
  refine rn_iconst (v := 0) zd_X10_goThrough_0.1.2.2.2 rfl ?_
  obtain ⟨M3, hM3, h⟩ := zlt_e h
  refine rn_putI hM3 zf_X10_67 k_a0 zd_X10_goThrough_0.2.1.1.1 ?_
  refine rn_aload_n (q := 0) 0 rfl zd_X10_goThrough_0.2.1.1.2 ?_
  refine rn_getR zf_X10_30 (Or.inl ⟨_, rfl⟩) k_a0 (zx_10_5 hW k_a0) zd_X10_goThrough_0.2.1.2.1 ?_
  refine rn_aload_n (q := 2) 2 rfl zd_X10_goThrough_0.2.1.2.2 ?_
  obtain ⟨M4, L5, h6, h⟩ := zbd2_e h
  refine rn_callVv (As := [.ref a2]) (rest := []) zl_X10_70 zm_X6_copy ⟨by decide, by decide⟩ (ci := 6) rfl rfl (by decide) (zw_10_5 hW k_a0) rfl rfl (Nat.le_of_ble_eq_true rfl) zd_X10_goThrough_0.2.2.1.1 (ok_X6_copy hW (zw_10_5 hW k_a0) k_a2 h6) ?_
  refine rn_iconst (v := 0) zd_X10_goThrough_0.2.2.1.2 rfl ?_
  refine rn_istore (ls' := [(6, .int (0 : Int32)), (0, .ref a0), (1, .ref a1), (2, .ref a2), (3, .int x3), (4, .int x4), (5, .int x5)]) (by decide) rfl zd_X10_goThrough_0.2.2.2.1 ?_
  obtain ⟨e13, he13, h⟩ := zbd_e h
  refine rn_sub (ls' := [(0, .ref a0), (1, .ref a1), (2, .ref a2), (3, .int x3), (4, .int x4), (5, .int x5), (6, .int (0 : Int32))]) [1, 2, 3, 4, 5, 6, 0] rfl (zloop_ok (P := P_X10_goThrough_26 G K R L5 a0 a1 a2 x3 x4 x5 none (M', L', R, K)) (Q := Q_X10_goThrough_26 G K R L5 a0 a1 a2 x3 x4 x5 none (M', L', R, K)) (fun v x hx hq => ok_b_X10_goThrough_26 hW k_a0 k_a1 k_a2 hx hq) _ _ _ he13 ?_)
  show Rn G mt_X10_goThrough 62 [(0, .ref a0), (1, .ref a1), (2, .ref a2), (3, .int x3), (4, .int x4), (5, .int x5)] [] (e13, L5, R, K) none (M', L', R, K)
  refine rn_aload_n (q := 0) 0 rfl zd_X10_goThrough_1.2.2.2.2 ?_
  refine rn_iload_n (q := 3) 3 rfl zd_X10_goThrough_2.1.1.1.1 ?_
  obtain ⟨r14, M15, h16, h⟩ := zbd2_e h
  refine rn_callVi (As := [.int x3]) (rest := []) zl_X10_77 zm_X10_startRows ⟨by decide, by decide⟩ (ci := 10) rfl rfl (by decide) k_a0 rfl rfl (Nat.le_of_ble_eq_true rfl) zd_X10_goThrough_2.1.1.1.2 (ok_X10_startRows hW k_a0 h16) ?_
  refine rn_istore (ls' := [(6, .int r14), (0, .ref a0), (1, .ref a1), (2, .ref a2), (3, .int x3), (4, .int x4), (5, .int x5)]) (by decide) rfl zd_X10_goThrough_2.1.1.2.1 ?_
  refine rn_iconst (v := 0) zd_X10_goThrough_2.1.1.2.2 rfl ?_
  refine rn_istore (ls' := [(7, .int (0 : Int32)), (6, .int r14), (0, .ref a0), (1, .ref a1), (2, .ref a2), (3, .int x3), (4, .int x4), (5, .int x5)]) (by decide) rfl zd_X10_goThrough_2.1.2.1.1 ?_
  obtain ⟨e40, he40, h⟩ := zbd_e h
  refine rn_sub (ls' := [(0, .ref a0), (1, .ref a1), (2, .ref a2), (3, .int x3), (4, .int x4), (5, .int x5), (6, .int r14), (7, .int (0 : Int32))]) [2, 3, 4, 5, 6, 7, 1, 0] rfl (zloop_ok (P := P_X10_goThrough_72 G K R a0 a1 a2 x3 x4 x5 none (M', L', R, K)) (Q := Q_X10_goThrough_72 G K R a0 a1 a2 x3 x4 x5 none (M', L', R, K)) (fun v x hx hq => ok_b_X10_goThrough_72 hW k_a0 k_a1 k_a2 hx hq) _ _ _ he40 ?_)
  show Rn G mt_X10_goThrough 177 [] [] (e40.1, e40.2, R, K) none (M', L', R, K)
  cases h
  exact rn_vret zd_X10_goThrough_5.2.2.2 rfl
abbrev P_X10_goThroughFits_8 (G : zG) (K : zK) (R : zR) (L : zL) (a0 : Nat) (a1 : Nat) (a2 : Nat) (x3 : Int32) (x4 : Int32) (x5 : Int32) (r : Option Value) (S' : zS) (v : Int32 × zM) : Prop := Rn G mt_X10_goThroughFits 8 [(0, .ref a0), (1, .ref a1), (2, .ref a2), (3, .int x3), (4, .int x4), (5, .int x5), (6, .int v.1)] [] (v.2, L, R, K) r S'
abbrev Q_X10_goThroughFits_8 (G : zG) (K : zK) (R : zR) (L : zL) (a0 : Nat) (a1 : Nat) (a2 : Nat) (x3 : Int32) (x4 : Int32) (x5 : Int32) (r : Option Value) (S' : zS) : (zM) → Prop := (fun e => Rn G mt_X10_goThroughFits 37 [(0, .ref a0), (1, .ref a1), (2, .ref a2), (3, .int x3), (4, .int x4), (5, .int x5)] [] (e, L, R, K) r S')
def nb_X10_goThroughFits_8 (R : zR) (M : zM) (L : zL) (a0 : Nat) (a1 : Nat) (a2 : Nat) (x3 : Int32) (x4 : Int32) (x5 : Int32) (x6 : Int32) : Option ((Int32 × zM) ⊕ ((zM))) :=
  if (10 : Int32) ≤ x6 then (
    some (.inr M)
  ) else (
    zck (zin x6 10) <|
    zlt (zup M (R a0 2) (ztn x6) (-1 : Int32)) fun M4 =>
    zck (zin x6 10) <|
    zlt (zup M4 (R a0 3) (ztn x6) (0 : Int32)) fun M6 =>
    some (.inl ((x6 + 1), M6))
  )
set_option maxRecDepth 4000 in
theorem ok_b_X10_goThroughFits_8 {G : zG} {K : zK} {R : zR} {M : zM} {L : zL} (hW : zWT R K) {a0 : Nat} {a1 : Nat} {a2 : Nat} {x3 : Int32} {x4 : Int32} {x5 : Int32} {x6 : Int32} (k_a0 : K[a0]? = some (10, 11)) (k_a1 : K[a1]? = some (7, 11)) (k_a2 : K[a2]? = some (6, 8)) {r : Option Value} {S' : zS} {x : (Int32 × zM) ⊕ ((zM))} (h : nb_X10_goThroughFits_8 R M L a0 a1 a2 x3 x4 x5 x6 = some x) (hk : Sum.elim (P_X10_goThroughFits_8 G K R L a0 a1 a2 x3 x4 x5 r S') (Q_X10_goThroughFits_8 G K R L a0 a1 a2 x3 x4 x5 r S') x) : P_X10_goThroughFits_8 G K R L a0 a1 a2 x3 x4 x5 r S' (x6, M) := by
  show Rn G mt_X10_goThroughFits 8 [(0, .ref a0), (1, .ref a1), (2, .ref a2), (3, .int x3), (4, .int x4), (5, .int x5), (6, .int x6)] [] (M, L, R, K) r S'
  unfold nb_X10_goThroughFits_8 at h
  refine rn_iload 6 rfl zd_X10_goThroughFits_0.1.2.1.2 ?_
  refine rn_bipush (v := 10) zd_X10_goThroughFits_0.1.2.2.1 rfl ?_
  rcases zif_e h with ⟨hc2, h⟩ | ⟨hc2, h⟩
  · refine rn_icmp_ge_t (tgt := 37) hc2 zd_X10_goThroughFits_0.1.2.2.2 rfl ?_
    cases h
    exact rn_sub (ls' := [(0, .ref a0), (1, .ref a1), (2, .ref a2), (3, .int x3), (4, .int x4), (5, .int x5)]) [0, 1, 2, 3, 4, 5] rfl hk
  · refine rn_icmp_ge_f (tgt := 37) hc2 zd_X10_goThroughFits_0.1.2.2.2 rfl ?_
    refine rn_aload_n (q := 0) 0 rfl zd_X10_goThroughFits_0.2.1.1.1 ?_
    refine rn_getR zf_X10_18 (Or.inr ⟨_, rfl⟩) k_a0 (zx_10_2 hW k_a0) zd_X10_goThroughFits_0.2.1.1.2 ?_
    refine rn_iload 6 rfl zd_X10_goThroughFits_0.2.1.2.1 ?_
    refine rn_iconst (v := -1) zd_X10_goThroughFits_0.2.1.2.2 rfl ?_
    obtain ⟨hc3, h⟩ := zck_e h
    obtain ⟨M4, hM4, h⟩ := zlt_e h
    refine rn_iast hM4 (zw_10_2 hW k_a0) hc3 zd_X10_goThroughFits_0.2.2.1.1 ?_
    refine rn_aload_n (q := 0) 0 rfl zd_X10_goThroughFits_0.2.2.1.2 ?_
    refine rn_getR zf_X10_21 (Or.inr ⟨_, rfl⟩) k_a0 (zx_10_3 hW k_a0) zd_X10_goThroughFits_0.2.2.2.1 ?_
    refine rn_iload 6 rfl zd_X10_goThroughFits_0.2.2.2.2 ?_
    refine rn_iconst (v := 0) zd_X10_goThroughFits_1.1.1.1.1 rfl ?_
    obtain ⟨hc5, h⟩ := zck_e h
    obtain ⟨M6, hM6, h⟩ := zlt_e h
    refine rn_iast hM6 (zw_10_3 hW k_a0) hc5 zd_X10_goThroughFits_1.1.1.1.2 ?_
    refine rn_iinc (v := (x6 + 1)) (ls' := [(6, .int (x6 + 1)), (0, .ref a0), (1, .ref a1), (2, .ref a2), (3, .int x3), (4, .int x4), (5, .int x5)]) 6 rfl rfl (by decide) rfl zd_X10_goThroughFits_1.1.1.2.1 ?_
    refine rn_goto (tgt := 8) zd_X10_goThroughFits_1.1.1.2.2 rfl ?_
    cases h
    exact rn_sub (ls' := [(0, .ref a0), (1, .ref a1), (2, .ref a2), (3, .int x3), (4, .int x4), (5, .int x5), (6, .int (x6 + 1))]) [1, 2, 3, 4, 5, 6, 0] rfl hk
abbrev P_X10_goThroughFits_40 (G : zG) (K : zK) (R : zR) (L : zL) (a0 : Nat) (a1 : Nat) (a2 : Nat) (x3 : Int32) (x4 : Int32) (x5 : Int32) (r : Option Value) (S' : zS) (v : Int32 × zM) : Prop := Rn G mt_X10_goThroughFits 40 [(0, .ref a0), (1, .ref a1), (2, .ref a2), (3, .int x3), (4, .int x4), (5, .int x5), (6, .int v.1)] [] (v.2, L, R, K) r S'
abbrev Q_X10_goThroughFits_40 (G : zG) (K : zK) (R : zR) (L : zL) (a0 : Nat) (a1 : Nat) (a2 : Nat) (x3 : Int32) (x4 : Int32) (x5 : Int32) (r : Option Value) (S' : zS) : (zM) → Prop := (fun e => Rn G mt_X10_goThroughFits 123 [(0, .ref a0), (1, .ref a1), (2, .ref a2), (3, .int x3), (5, .int x5)] [] (e, L, R, K) r S')
def nb_X10_goThroughFits_40 (R : zR) (M : zM) (L : zL) (a0 : Nat) (a1 : Nat) (a2 : Nat) (x3 : Int32) (x4 : Int32) (x5 : Int32) (x6 : Int32) : Option ((Int32 × zM) ⊕ ((zM))) :=
  if x4 ≤ x6 then (
    some (.inr M)
  ) else (
    if (M a0 6) ≤ x6 then (
      some (.inr M)
    ) else (
      if (20 : Int32) ≤ x6 then (
        some (.inr M)
      ) else (
        zck (zin x6 20) <|
        zbd (f_X6_has M a2 (M (R a0 0) (ztn x6))) fun r12 =>
        if r12 = 0 then (
          some (.inl ((x6 + 1), M))
        ) else (
          zck (zin x6 20) <|
          zck (zin x6 20) <|
          zck (zin (M (R a0 0) (ztn x6)) 10) <|
          zlt (zup M (R a0 2) (ztn (M (R a0 0) (ztn x6))) (M (R a0 1) (ztn x6))) fun M18 =>
          zck (zin x6 20) <|
          zlt (zup M18 a0 7 (if (M18 a0 7) < (M18 (R a0 0) (ztn x6)) then (M18 (R a0 0) (ztn x6)) else (M18 a0 7))) fun M20 =>
          some (.inl ((x6 + 1), M20))
        )
      )
    )
  )
set_option maxRecDepth 4000 in
theorem ok_b_X10_goThroughFits_40 {G : zG} {K : zK} {R : zR} {M : zM} {L : zL} (hW : zWT R K) {a0 : Nat} {a1 : Nat} {a2 : Nat} {x3 : Int32} {x4 : Int32} {x5 : Int32} {x6 : Int32} (k_a0 : K[a0]? = some (10, 11)) (k_a1 : K[a1]? = some (7, 11)) (k_a2 : K[a2]? = some (6, 8)) {r : Option Value} {S' : zS} {x : (Int32 × zM) ⊕ ((zM))} (h : nb_X10_goThroughFits_40 R M L a0 a1 a2 x3 x4 x5 x6 = some x) (hk : Sum.elim (P_X10_goThroughFits_40 G K R L a0 a1 a2 x3 x4 x5 r S') (Q_X10_goThroughFits_40 G K R L a0 a1 a2 x3 x4 x5 r S') x) : P_X10_goThroughFits_40 G K R L a0 a1 a2 x3 x4 x5 r S' (x6, M) := by
  show Rn G mt_X10_goThroughFits 40 [(0, .ref a0), (1, .ref a1), (2, .ref a2), (3, .int x3), (4, .int x4), (5, .int x5), (6, .int x6)] [] (M, L, R, K) r S'
  unfold nb_X10_goThroughFits_40 at h
  refine rn_iload 6 rfl zd_X10_goThroughFits_1.1.2.2.1 ?_
  refine rn_iload 4 rfl zd_X10_goThroughFits_1.1.2.2.2 ?_
  rcases zif_e h with ⟨hc8, h⟩ | ⟨hc8, h⟩
  · refine rn_icmp_ge_t (tgt := 123) hc8 zd_X10_goThroughFits_1.2.1.1.1 rfl ?_
    cases h
    exact rn_sub (ls' := [(0, .ref a0), (1, .ref a1), (2, .ref a2), (3, .int x3), (5, .int x5)]) [0, 1, 2, 3, 5] rfl hk
  · refine rn_icmp_ge_f (tgt := 123) hc8 zd_X10_goThroughFits_1.2.1.1.1 rfl ?_
    refine rn_iload 6 rfl zd_X10_goThroughFits_1.2.1.1.2 ?_
    refine rn_aload_n (q := 0) 0 rfl zd_X10_goThroughFits_1.2.1.2.1 ?_
    refine rn_getI zf_X10_34 (Or.inl rfl) k_a0 zd_X10_goThroughFits_1.2.1.2.2 ?_
    rcases zif_e h with ⟨hc9, h⟩ | ⟨hc9, h⟩
    · refine rn_icmp_ge_t (tgt := 123) hc9 zd_X10_goThroughFits_1.2.2.1.1 rfl ?_
      cases h
      exact rn_sub (ls' := [(0, .ref a0), (1, .ref a1), (2, .ref a2), (3, .int x3), (5, .int x5)]) [0, 1, 2, 3, 5] rfl hk
    · refine rn_icmp_ge_f (tgt := 123) hc9 zd_X10_goThroughFits_1.2.2.1.1 rfl ?_
      refine rn_iload 6 rfl zd_X10_goThroughFits_1.2.2.1.2 ?_
      refine rn_bipush (v := 20) zd_X10_goThroughFits_1.2.2.2.1 rfl ?_
      rcases zif_e h with ⟨hc10, h⟩ | ⟨hc10, h⟩
      · refine rn_icmp_ge_t (tgt := 123) hc10 zd_X10_goThroughFits_1.2.2.2.2 rfl ?_
        cases h
        exact rn_sub (ls' := [(0, .ref a0), (1, .ref a1), (2, .ref a2), (3, .int x3), (5, .int x5)]) [0, 1, 2, 3, 5] rfl hk
      · refine rn_icmp_ge_f (tgt := 123) hc10 zd_X10_goThroughFits_1.2.2.2.2 rfl ?_
        refine rn_aload_n (q := 2) 2 rfl zd_X10_goThroughFits_2.1.1.1.1 ?_
        refine rn_aload_n (q := 0) 0 rfl zd_X10_goThroughFits_2.1.1.1.2 ?_
        refine rn_getR zf_X10_9 (Or.inr ⟨_, rfl⟩) k_a0 (zx_10_0 hW k_a0) zd_X10_goThroughFits_2.1.1.2.1 ?_
        refine rn_iload 6 rfl zd_X10_goThroughFits_2.1.1.2.2 ?_
        obtain ⟨hc11, h⟩ := zck_e h
        refine rn_iald (zw_10_0 hW k_a0) hc11 zd_X10_goThroughFits_2.1.2.1.1 ?_
        obtain ⟨r12, h13, h⟩ := zbd_e h
        refine rn_callVi (As := [.int (M (R a0 0) (ztn x6))]) (rest := []) zl_X10_42 zm_X6_has ⟨by decide, by decide⟩ (ci := 6) rfl rfl (by decide) k_a2 rfl rfl (Nat.le_of_ble_eq_true rfl) zd_X10_goThroughFits_2.1.2.1.2 (ok_X6_has hW k_a2 h13) ?_
        rcases zif_e h with ⟨hc14, h⟩ | ⟨hc14, h⟩
        · refine rn_if_ne_f (tgt := 80) hc14 zd_X10_goThroughFits_2.1.2.2.1 rfl ?_
          refine rn_goto (tgt := 117) zd_X10_goThroughFits_2.1.2.2.2 rfl ?_
          refine rn_iinc (v := (x6 + 1)) (ls' := [(6, .int (x6 + 1)), (0, .ref a0), (1, .ref a1), (2, .ref a2), (3, .int x3), (4, .int x4), (5, .int x5)]) 6 rfl rfl (by decide) rfl zd_X10_goThroughFits_3.2.2.1.1 ?_
          refine rn_goto (tgt := 40) zd_X10_goThroughFits_3.2.2.1.2 rfl ?_
          cases h
          exact rn_sub (ls' := [(0, .ref a0), (1, .ref a1), (2, .ref a2), (3, .int x3), (4, .int x4), (5, .int x5), (6, .int (x6 + 1))]) [1, 2, 3, 4, 5, 6, 0] rfl hk
        · refine rn_if_ne_t (tgt := 80) hc14 zd_X10_goThroughFits_2.1.2.2.1 rfl ?_
          refine rn_aload_n (q := 0) 0 rfl zd_X10_goThroughFits_2.2.1.1.1 ?_
          refine rn_getR zf_X10_18 (Or.inr ⟨_, rfl⟩) k_a0 (zx_10_2 hW k_a0) zd_X10_goThroughFits_2.2.1.1.2 ?_
          refine rn_aload_n (q := 0) 0 rfl zd_X10_goThroughFits_2.2.1.2.1 ?_
          refine rn_getR zf_X10_9 (Or.inr ⟨_, rfl⟩) k_a0 (zx_10_0 hW k_a0) zd_X10_goThroughFits_2.2.1.2.2 ?_
          refine rn_iload 6 rfl zd_X10_goThroughFits_2.2.2.1.1 ?_
          obtain ⟨hc15, h⟩ := zck_e h
          refine rn_iald (zw_10_0 hW k_a0) hc15 zd_X10_goThroughFits_2.2.2.1.2 ?_
          refine rn_aload_n (q := 0) 0 rfl zd_X10_goThroughFits_2.2.2.2.1 ?_
          refine rn_getR zf_X10_15 (Or.inr ⟨_, rfl⟩) k_a0 (zx_10_1 hW k_a0) zd_X10_goThroughFits_2.2.2.2.2 ?_
          refine rn_iload 6 rfl zd_X10_goThroughFits_3.1.1.1.1 ?_
          obtain ⟨hc16, h⟩ := zck_e h
          refine rn_iald (zw_10_1 hW k_a0) hc16 zd_X10_goThroughFits_3.1.1.1.2 ?_
          obtain ⟨hc17, h⟩ := zck_e h
          obtain ⟨M18, hM18, h⟩ := zlt_e h
          refine rn_iast hM18 (zw_10_2 hW k_a0) hc17 zd_X10_goThroughFits_3.1.1.2.1 ?_
          refine rn_aload_n (q := 0) 0 rfl zd_X10_goThroughFits_3.1.1.2.2 ?_
          refine rn_aload_n (q := 0) 0 rfl zd_X10_goThroughFits_3.1.2.1.1 ?_
          refine rn_getI zf_X10_39 (Or.inl rfl) k_a0 zd_X10_goThroughFits_3.1.2.1.2 ?_
          refine rn_aload_n (q := 0) 0 rfl zd_X10_goThroughFits_3.1.2.2.1 ?_
          refine rn_getR zf_X10_9 (Or.inr ⟨_, rfl⟩) k_a0 (zx_10_0 hW k_a0) zd_X10_goThroughFits_3.1.2.2.2 ?_
          refine rn_iload 6 rfl zd_X10_goThroughFits_3.2.1.1.1 ?_
          obtain ⟨hc19, h⟩ := zck_e h
          refine rn_iald (zw_10_0 hW k_a0) hc19 zd_X10_goThroughFits_3.2.1.1.2 ?_
          refine rn_max zb_X10_46 zms_max zmi zmc_max ⟨by decide, by decide⟩ (Nat.le_of_ble_eq_true rfl) zd_X10_goThroughFits_3.2.1.2.1 ?_
          obtain ⟨M20, hM20, h⟩ := zlt_e h
          refine rn_putI hM20 zf_X10_39 k_a0 zd_X10_goThroughFits_3.2.1.2.2 ?_
          refine rn_iinc (v := (x6 + 1)) (ls' := [(6, .int (x6 + 1)), (0, .ref a0), (1, .ref a1), (2, .ref a2), (3, .int x3), (4, .int x4), (5, .int x5)]) 6 rfl rfl (by decide) rfl zd_X10_goThroughFits_3.2.2.1.1 ?_
          refine rn_goto (tgt := 40) zd_X10_goThroughFits_3.2.2.1.2 rfl ?_
          cases h
          exact rn_sub (ls' := [(0, .ref a0), (1, .ref a1), (2, .ref a2), (3, .int x3), (4, .int x4), (5, .int x5), (6, .int (x6 + 1))]) [1, 2, 3, 4, 5, 6, 0] rfl hk
def n_X10_goThroughFits (R : zR) (M : zM) (L : zL) (a0 : Nat) (a1 : Nat) (a2 : Nat) (x3 : Int32) (x4 : Int32) (x5 : Int32) : Option (zM × zL) :=
  zlt (zup M a0 7 (-1 : Int32)) fun M1 =>
  zbd (zloop zN (fun v => nb_X10_goThroughFits_8 R v.2 L a0 a1 a2 x3 x4 x5 v.1) ((0 : Int32), M1)) fun e7 =>
  zbd (zloop zN (fun v => nb_X10_goThroughFits_40 R v.2 L a0 a1 a2 x3 x4 x5 v.1) ((0 : Int32), e7)) fun e21 =>
  zbd2 (n_X10_goThrough R e21 L a0 a1 a2 x3 x5 (0 : Int32)) fun M22 L23 =>
  some (M22, L23)
set_option maxRecDepth 4000 in
theorem ok_X10_goThroughFits {G : zG} {K : zK} {R : zR} {M : zM} {L : zL} (hW : zWT R K) {a0 : Nat} {a1 : Nat} {a2 : Nat} {x3 : Int32} {x4 : Int32} {x5 : Int32} (k_a0 : K[a0]? = some (10, 11)) (k_a1 : K[a1]? = some (7, 11)) (k_a2 : K[a2]? = some (6, 8)) {M' : zM} {L' : zL} (h : n_X10_goThroughFits R M L a0 a1 a2 x3 x4 x5 = some (M', L')) : Rm G mt_X10_goThroughFits [.ref a0, .ref a1, .ref a2, .int x3, .int x4, .int x5] (M, L, R, K) none (M', L', R, K) := by
  refine rm_rn rfl rfl (Nat.le_of_ble_eq_true rfl) ?_
  show Rn G mt_X10_goThroughFits 0 [(0, .ref a0), (1, .ref a1), (2, .ref a2), (3, .int x3), (4, .int x4), (5, .int x5)] [] (M, L, R, K) none (M', L', R, K)
  unfold n_X10_goThroughFits at h
  refine rn_aload_n (q := 0) 0 rfl zd_X10_goThroughFits_0.1.1.1.1 ?_
  refine rn_iconst (v := -1) zd_X10_goThroughFits_0.1.1.1.2 rfl ?_
  obtain ⟨M1, hM1, h⟩ := zlt_e h
  refine rn_putI hM1 zf_X10_39 k_a0 zd_X10_goThroughFits_0.1.1.2.1 ?_
  refine rn_iconst (v := 0) zd_X10_goThroughFits_0.1.1.2.2 rfl ?_
  refine rn_istore (ls' := [(6, .int (0 : Int32)), (0, .ref a0), (1, .ref a1), (2, .ref a2), (3, .int x3), (4, .int x4), (5, .int x5)]) (by decide) rfl zd_X10_goThroughFits_0.1.2.1.1 ?_
  obtain ⟨e7, he7, h⟩ := zbd_e h
  refine rn_sub (ls' := [(0, .ref a0), (1, .ref a1), (2, .ref a2), (3, .int x3), (4, .int x4), (5, .int x5), (6, .int (0 : Int32))]) [1, 2, 3, 4, 5, 6, 0] rfl (zloop_ok (P := P_X10_goThroughFits_8 G K R L a0 a1 a2 x3 x4 x5 none (M', L', R, K)) (Q := Q_X10_goThroughFits_8 G K R L a0 a1 a2 x3 x4 x5 none (M', L', R, K)) (fun v x hx hq => ok_b_X10_goThroughFits_8 hW k_a0 k_a1 k_a2 hx hq) _ _ _ he7 ?_)
  show Rn G mt_X10_goThroughFits 37 [(0, .ref a0), (1, .ref a1), (2, .ref a2), (3, .int x3), (4, .int x4), (5, .int x5)] [] (e7, L, R, K) none (M', L', R, K)
  refine rn_iconst (v := 0) zd_X10_goThroughFits_1.1.2.1.1 rfl ?_
  refine rn_istore (ls' := [(6, .int (0 : Int32)), (0, .ref a0), (1, .ref a1), (2, .ref a2), (3, .int x3), (4, .int x4), (5, .int x5)]) (by decide) rfl zd_X10_goThroughFits_1.1.2.1.2 ?_
  obtain ⟨e21, he21, h⟩ := zbd_e h
  refine rn_sub (ls' := [(0, .ref a0), (1, .ref a1), (2, .ref a2), (3, .int x3), (4, .int x4), (5, .int x5), (6, .int (0 : Int32))]) [1, 2, 3, 4, 5, 6, 0] rfl (zloop_ok (P := P_X10_goThroughFits_40 G K R L a0 a1 a2 x3 x4 x5 none (M', L', R, K)) (Q := Q_X10_goThroughFits_40 G K R L a0 a1 a2 x3 x4 x5 none (M', L', R, K)) (fun v x hx hq => ok_b_X10_goThroughFits_40 hW k_a0 k_a1 k_a2 hx hq) _ _ _ he21 ?_)
  show Rn G mt_X10_goThroughFits 123 [(0, .ref a0), (1, .ref a1), (2, .ref a2), (3, .int x3), (5, .int x5)] [] (e21, L, R, K) none (M', L', R, K)
  refine rn_aload_n (q := 0) 0 rfl zd_X10_goThroughFits_3.2.2.2.1 ?_
  refine rn_aload_n (q := 1) 1 rfl zd_X10_goThroughFits_3.2.2.2.2 ?_
  refine rn_aload_n (q := 2) 2 rfl zd_X10_goThroughFits_4.1.1 ?_
  refine rn_iload_n (q := 3) 3 rfl zd_X10_goThroughFits_4.1.2.1 ?_
  refine rn_iload 4 rfl zd_X10_goThroughFits_4.1.2.2 ?_
  refine rn_iconst (v := 0) zd_X10_goThroughFits_4.2.1 rfl ?_
  obtain ⟨M22, L23, h24, h⟩ := zbd2_e h
  refine rn_callVv (As := [.ref a1, .ref a2, .int x3, .int x5, .int (0 : Int32)]) (rest := []) zl_X10_52 zm_X10_goThrough ⟨by decide, by decide⟩ (ci := 10) rfl rfl (by decide) k_a0 rfl rfl (Nat.le_of_ble_eq_true rfl) zd_X10_goThroughFits_4.2.2.1 (ok_X10_goThrough hW k_a0 k_a1 k_a2 h24) ?_
  cases h
  exact rn_vret zd_X10_goThroughFits_4.2.2.2 rfl
abbrev P_X10_goThroughAgo_13 (G : zG) (K : zK) (R : zR) (L : zL) (a0 : Nat) (a1 : Nat) (a2 : Nat) (x3 : Int32) (r : Option Value) (S' : zS) (v : Int32 × zM) : Prop := Rn G mt_X10_goThroughAgo 13 [(0, .ref a0), (1, .ref a1), (2, .ref a2), (3, .int x3), (4, .int v.1)] [] (v.2, L, R, K) r S'
abbrev Q_X10_goThroughAgo_13 (G : zG) (K : zK) (R : zR) (L : zL) (a0 : Nat) (a1 : Nat) (a2 : Nat) (x3 : Int32) (r : Option Value) (S' : zS) : (zM) → Prop := (fun e => Rn G mt_X10_goThroughAgo 49 [(0, .ref a0), (1, .ref a1), (2, .ref a2), (3, .int x3)] [] (e, L, R, K) r S')
def nb_X10_goThroughAgo_13 (R : zR) (M : zM) (L : zL) (a0 : Nat) (a1 : Nat) (a2 : Nat) (x3 : Int32) (x4 : Int32) : Option ((Int32 × zM) ⊕ ((zM))) :=
  if (10 : Int32) ≤ x4 then (
    some (.inr M)
  ) else (
    zbd (f_X6_has M a2 x4) fun r3 =>
    if r3 = 0 then (
      some (.inr M)
    ) else (
      zck (zin x4 10) <|
      zck (zin x4 10) <|
      zlt (zup M (R a0 3) (ztn x4) (M (R a2 0) (ztn x4))) fun M8 =>
      some (.inl ((x4 + 1), M8))
    )
  )
set_option maxRecDepth 4000 in
theorem ok_b_X10_goThroughAgo_13 {G : zG} {K : zK} {R : zR} {M : zM} {L : zL} (hW : zWT R K) {a0 : Nat} {a1 : Nat} {a2 : Nat} {x3 : Int32} {x4 : Int32} (k_a0 : K[a0]? = some (10, 11)) (k_a1 : K[a1]? = some (7, 11)) (k_a2 : K[a2]? = some (6, 8)) {r : Option Value} {S' : zS} {x : (Int32 × zM) ⊕ ((zM))} (h : nb_X10_goThroughAgo_13 R M L a0 a1 a2 x3 x4 = some x) (hk : Sum.elim (P_X10_goThroughAgo_13 G K R L a0 a1 a2 x3 r S') (Q_X10_goThroughAgo_13 G K R L a0 a1 a2 x3 r S') x) : P_X10_goThroughAgo_13 G K R L a0 a1 a2 x3 r S' (x4, M) := by
  show Rn G mt_X10_goThroughAgo 13 [(0, .ref a0), (1, .ref a1), (2, .ref a2), (3, .int x3), (4, .int x4)] [] (M, L, R, K) r S'
  unfold nb_X10_goThroughAgo_13 at h
  refine rn_iload 4 rfl zd_X10_goThroughAgo_0.2.1.1.1 ?_
  refine rn_bipush (v := 10) zd_X10_goThroughAgo_0.2.1.1.2 rfl ?_
  rcases zif_e h with ⟨hc2, h⟩ | ⟨hc2, h⟩
  · refine rn_icmp_ge_t (tgt := 49) hc2 zd_X10_goThroughAgo_0.2.1.2.1 rfl ?_
    cases h
    exact rn_sub (ls' := [(0, .ref a0), (1, .ref a1), (2, .ref a2), (3, .int x3)]) [0, 1, 2, 3] rfl hk
  · refine rn_icmp_ge_f (tgt := 49) hc2 zd_X10_goThroughAgo_0.2.1.2.1 rfl ?_
    refine rn_aload_n (q := 2) 2 rfl zd_X10_goThroughAgo_0.2.1.2.2 ?_
    refine rn_iload 4 rfl zd_X10_goThroughAgo_0.2.2.1.1 ?_
    obtain ⟨r3, h4, h⟩ := zbd_e h
    refine rn_callVi (As := [.int x4]) (rest := []) zl_X10_42 zm_X6_has ⟨by decide, by decide⟩ (ci := 6) rfl rfl (by decide) k_a2 rfl rfl (Nat.le_of_ble_eq_true rfl) zd_X10_goThroughAgo_0.2.2.1.2 (ok_X6_has hW k_a2 h4) ?_
    rcases zif_e h with ⟨hc5, h⟩ | ⟨hc5, h⟩
    · refine rn_if_eq_t (tgt := 49) hc5 zd_X10_goThroughAgo_0.2.2.2.1 rfl ?_
      cases h
      exact rn_sub (ls' := [(0, .ref a0), (1, .ref a1), (2, .ref a2), (3, .int x3)]) [0, 1, 2, 3] rfl hk
    · refine rn_if_eq_f (tgt := 49) hc5 zd_X10_goThroughAgo_0.2.2.2.1 rfl ?_
      refine rn_aload_n (q := 0) 0 rfl zd_X10_goThroughAgo_0.2.2.2.2 ?_
      refine rn_getR zf_X10_21 (Or.inr ⟨_, rfl⟩) k_a0 (zx_10_3 hW k_a0) zd_X10_goThroughAgo_1.1.1.1.1 ?_
      refine rn_iload 4 rfl zd_X10_goThroughAgo_1.1.1.1.2 ?_
      refine rn_aload_n (q := 2) 2 rfl zd_X10_goThroughAgo_1.1.1.2.1 ?_
      refine rn_getR zf_X10_58 (Or.inr ⟨_, rfl⟩) k_a2 (zx_6_0 hW k_a2) zd_X10_goThroughAgo_1.1.1.2.2 ?_
      refine rn_iload 4 rfl zd_X10_goThroughAgo_1.1.2.1.1 ?_
      obtain ⟨hc6, h⟩ := zck_e h
      refine rn_iald (zw_6_0 hW k_a2) hc6 zd_X10_goThroughAgo_1.1.2.1.2 ?_
      obtain ⟨hc7, h⟩ := zck_e h
      obtain ⟨M8, hM8, h⟩ := zlt_e h
      refine rn_iast hM8 (zw_10_3 hW k_a0) hc7 zd_X10_goThroughAgo_1.1.2.2.1 ?_
      refine rn_iinc (v := (x4 + 1)) (ls' := [(4, .int (x4 + 1)), (0, .ref a0), (1, .ref a1), (2, .ref a2), (3, .int x3)]) 4 rfl rfl (by decide) rfl zd_X10_goThroughAgo_1.1.2.2.2 ?_
      refine rn_goto (tgt := 13) zd_X10_goThroughAgo_1.2.1.1.1 rfl ?_
      cases h
      exact rn_sub (ls' := [(0, .ref a0), (1, .ref a1), (2, .ref a2), (3, .int x3), (4, .int (x4 + 1))]) [1, 2, 3, 4, 0] rfl hk
def n_X10_goThroughAgo (R : zR) (M : zM) (L : zL) (a0 : Nat) (a1 : Nat) (a2 : Nat) (x3 : Int32) : Option (zM × zL) :=
  zlt (zup M a0 7 ((M a2 4) - (1 : Int32))) fun M1 =>
  zbd (zloop zN (fun v => nb_X10_goThroughAgo_13 R v.2 L a0 a1 a2 x3 v.1) ((0 : Int32), M1)) fun e9 =>
  zbd2 (n_X10_goThrough R e9 L a0 a1 a2 x3 (0 : Int32) (1 : Int32)) fun M10 L11 =>
  some (M10, L11)
set_option maxRecDepth 4000 in
theorem ok_X10_goThroughAgo {G : zG} {K : zK} {R : zR} {M : zM} {L : zL} (hW : zWT R K) {a0 : Nat} {a1 : Nat} {a2 : Nat} {x3 : Int32} (k_a0 : K[a0]? = some (10, 11)) (k_a1 : K[a1]? = some (7, 11)) (k_a2 : K[a2]? = some (6, 8)) {M' : zM} {L' : zL} (h : n_X10_goThroughAgo R M L a0 a1 a2 x3 = some (M', L')) : Rm G mt_X10_goThroughAgo [.ref a0, .ref a1, .ref a2, .int x3] (M, L, R, K) none (M', L', R, K) := by
  refine rm_rn rfl rfl (Nat.le_of_ble_eq_true rfl) ?_
  show Rn G mt_X10_goThroughAgo 0 [(0, .ref a0), (1, .ref a1), (2, .ref a2), (3, .int x3)] [] (M, L, R, K) none (M', L', R, K)
  unfold n_X10_goThroughAgo at h
  refine rn_aload_n (q := 0) 0 rfl zd_X10_goThroughAgo_0.1.1.1.1 ?_
  refine rn_aload_n (q := 2) 2 rfl zd_X10_goThroughAgo_0.1.1.1.2 ?_
  refine rn_getI zf_X10_56 (Or.inl rfl) k_a2 zd_X10_goThroughAgo_0.1.1.2.1 ?_
  refine rn_iconst (v := 1) zd_X10_goThroughAgo_0.1.1.2.2 rfl ?_
  refine rn_isub zd_X10_goThroughAgo_0.1.2.1.1 ?_
  obtain ⟨M1, hM1, h⟩ := zlt_e h
  refine rn_putI hM1 zf_X10_39 k_a0 zd_X10_goThroughAgo_0.1.2.1.2 ?_
  refine rn_iconst (v := 0) zd_X10_goThroughAgo_0.1.2.2.1 rfl ?_
  refine rn_istore (ls' := [(4, .int (0 : Int32)), (0, .ref a0), (1, .ref a1), (2, .ref a2), (3, .int x3)]) (by decide) rfl zd_X10_goThroughAgo_0.1.2.2.2 ?_
  obtain ⟨e9, he9, h⟩ := zbd_e h
  refine rn_sub (ls' := [(0, .ref a0), (1, .ref a1), (2, .ref a2), (3, .int x3), (4, .int (0 : Int32))]) [1, 2, 3, 4, 0] rfl (zloop_ok (P := P_X10_goThroughAgo_13 G K R L a0 a1 a2 x3 none (M', L', R, K)) (Q := Q_X10_goThroughAgo_13 G K R L a0 a1 a2 x3 none (M', L', R, K)) (fun v x hx hq => ok_b_X10_goThroughAgo_13 hW k_a0 k_a1 k_a2 hx hq) _ _ _ he9 ?_)
  show Rn G mt_X10_goThroughAgo 49 [(0, .ref a0), (1, .ref a1), (2, .ref a2), (3, .int x3)] [] (e9, L, R, K) none (M', L', R, K)
  refine rn_aload_n (q := 0) 0 rfl zd_X10_goThroughAgo_1.2.1.1.2 ?_
  refine rn_aload_n (q := 1) 1 rfl zd_X10_goThroughAgo_1.2.1.2.1 ?_
  refine rn_aload_n (q := 2) 2 rfl zd_X10_goThroughAgo_1.2.1.2.2 ?_
  refine rn_iload_n (q := 3) 3 rfl zd_X10_goThroughAgo_1.2.2.1.1 ?_
  refine rn_iconst (v := 0) zd_X10_goThroughAgo_1.2.2.1.2 rfl ?_
  refine rn_iconst (v := 1) zd_X10_goThroughAgo_1.2.2.2.1 rfl ?_
  obtain ⟨M10, L11, h12, h⟩ := zbd2_e h
  refine rn_callVv (As := [.ref a1, .ref a2, .int x3, .int (0 : Int32), .int (1 : Int32)]) (rest := []) zl_X10_52 zm_X10_goThrough ⟨by decide, by decide⟩ (ci := 10) rfl rfl (by decide) k_a0 rfl rfl (Nat.le_of_ble_eq_true rfl) zd_X10_goThroughAgo_1.2.2.2.2 (ok_X10_goThrough hW k_a0 k_a1 k_a2 h12) ?_
  cases h
  exact rn_vret zd_X10_goThroughAgo_2 rfl
def f_X11_feed (R : zR) (M : zM) (a0 : Nat) (x1 : Int32) (x2 : Int32) (x3 : Int32) (x4 : Int32) (x5 : Int32) : Option (Int32 × zM) :=
  if ((M (R a0 0) 1) + (20 : Int32)) ≤ (2000 : Int32) then (
    zbd (f_X8_put R M (R a0 0) x1) fun M2 =>
    zbd (f_X8_put R M2 (R a0 0) x2) fun M4 =>
    zbd (f_X8_put R M4 (R a0 0) x3) fun M6 =>
    zbd (f_X8_put R M6 (R a0 0) x4) fun M8 =>
    zbd (f_X8_put R M8 (R a0 0) x5) fun M10 =>
    some ((M10 (R a0 0) 1), M10)
  ) else (
    some ((-1 : Int32), M)
  )
set_option maxRecDepth 4000 in
theorem ok_X11_feed {G : zG} {K : zK} {R : zR} {M : zM} {L : zL} (hW : zWT R K) {a0 : Nat} {x1 : Int32} {x2 : Int32} {x3 : Int32} {x4 : Int32} {x5 : Int32} (k_a0 : K[a0]? = some (11, 11)) {r' : Int32} {M' : zM} (h : f_X11_feed R M a0 x1 x2 x3 x4 x5 = some (r', M')) : Rm G mt_X11_feed [.ref a0, .int x1, .int x2, .int x3, .int x4, .int x5] (M, L, R, K) (some (.int r')) (M', L, R, K) := by
  refine rm_rn rfl rfl (Nat.le_of_ble_eq_true rfl) ?_
  show Rn G mt_X11_feed 0 [(0, .ref a0), (1, .int x1), (2, .int x2), (3, .int x3), (4, .int x4), (5, .int x5)] [] (M, L, R, K) (some (.int r')) (M', L, R, K)
  unfold f_X11_feed at h
  refine rn_aload_n (q := 0) 0 rfl zd_X11_feed_0.1.1.1.1 ?_
  refine rn_getR zf_X11_10 (Or.inl ⟨_, rfl⟩) k_a0 (zx_11_0 hW k_a0) zd_X11_feed_0.1.1.1.2 ?_
  refine rn_getI zf_X11_83 (Or.inl rfl) (zw_11_0 hW k_a0) zd_X11_feed_0.1.1.2.1 ?_
  refine rn_bipush (v := 20) zd_X11_feed_0.1.1.2.2 rfl ?_
  refine rn_iadd zd_X11_feed_0.1.2.1.1 ?_
  refine rn_sipush (v := 2000) zd_X11_feed_0.1.2.1.2 rfl ?_
  rcases zif_e h with ⟨hc1, h⟩ | ⟨hc1, h⟩
  · refine rn_icmp_le_t (tgt := 18) hc1 zd_X11_feed_0.1.2.2.1 rfl ?_
    refine rn_aload_n (q := 0) 0 rfl zd_X11_feed_0.2.1.1.2 ?_
    refine rn_getR zf_X11_10 (Or.inl ⟨_, rfl⟩) k_a0 (zx_11_0 hW k_a0) zd_X11_feed_0.2.1.2.1 ?_
    refine rn_iload_n (q := 1) 1 rfl zd_X11_feed_0.2.1.2.2 ?_
    obtain ⟨M2, h3, h⟩ := zbd_e h
    refine rn_callVv (As := [.int x1]) (rest := []) zl_X11_86 zm_X8_put ⟨by decide, by decide⟩ (ci := 8) rfl rfl (by decide) (zw_11_0 hW k_a0) rfl rfl (Nat.le_of_ble_eq_true rfl) zd_X11_feed_0.2.2.1.1 (ok_X8_put hW (zw_11_0 hW k_a0) h3) ?_
    refine rn_aload_n (q := 0) 0 rfl zd_X11_feed_0.2.2.1.2 ?_
    refine rn_getR zf_X11_10 (Or.inl ⟨_, rfl⟩) k_a0 (zx_11_0 hW k_a0) zd_X11_feed_0.2.2.2.1 ?_
    refine rn_iload_n (q := 2) 2 rfl zd_X11_feed_0.2.2.2.2 ?_
    obtain ⟨M4, h5, h⟩ := zbd_e h
    refine rn_callVv (As := [.int x2]) (rest := []) zl_X11_86 zm_X8_put ⟨by decide, by decide⟩ (ci := 8) rfl rfl (by decide) (zw_11_0 hW k_a0) rfl rfl (Nat.le_of_ble_eq_true rfl) zd_X11_feed_1.1.1.1.1 (ok_X8_put hW (zw_11_0 hW k_a0) h5) ?_
    refine rn_aload_n (q := 0) 0 rfl zd_X11_feed_1.1.1.1.2 ?_
    refine rn_getR zf_X11_10 (Or.inl ⟨_, rfl⟩) k_a0 (zx_11_0 hW k_a0) zd_X11_feed_1.1.1.2.1 ?_
    refine rn_iload_n (q := 3) 3 rfl zd_X11_feed_1.1.1.2.2 ?_
    obtain ⟨M6, h7, h⟩ := zbd_e h
    refine rn_callVv (As := [.int x3]) (rest := []) zl_X11_86 zm_X8_put ⟨by decide, by decide⟩ (ci := 8) rfl rfl (by decide) (zw_11_0 hW k_a0) rfl rfl (Nat.le_of_ble_eq_true rfl) zd_X11_feed_1.1.2.1.1 (ok_X8_put hW (zw_11_0 hW k_a0) h7) ?_
    refine rn_aload_n (q := 0) 0 rfl zd_X11_feed_1.1.2.1.2 ?_
    refine rn_getR zf_X11_10 (Or.inl ⟨_, rfl⟩) k_a0 (zx_11_0 hW k_a0) zd_X11_feed_1.1.2.2.1 ?_
    refine rn_iload 4 rfl zd_X11_feed_1.1.2.2.2 ?_
    obtain ⟨M8, h9, h⟩ := zbd_e h
    refine rn_callVv (As := [.int x4]) (rest := []) zl_X11_86 zm_X8_put ⟨by decide, by decide⟩ (ci := 8) rfl rfl (by decide) (zw_11_0 hW k_a0) rfl rfl (Nat.le_of_ble_eq_true rfl) zd_X11_feed_1.2.1.1.1 (ok_X8_put hW (zw_11_0 hW k_a0) h9) ?_
    refine rn_aload_n (q := 0) 0 rfl zd_X11_feed_1.2.1.1.2 ?_
    refine rn_getR zf_X11_10 (Or.inl ⟨_, rfl⟩) k_a0 (zx_11_0 hW k_a0) zd_X11_feed_1.2.1.2.1 ?_
    refine rn_iload 5 rfl zd_X11_feed_1.2.1.2.2 ?_
    obtain ⟨M10, h11, h⟩ := zbd_e h
    refine rn_callVv (As := [.int x5]) (rest := []) zl_X11_86 zm_X8_put ⟨by decide, by decide⟩ (ci := 8) rfl rfl (by decide) (zw_11_0 hW k_a0) rfl rfl (Nat.le_of_ble_eq_true rfl) zd_X11_feed_1.2.2.1.1 (ok_X8_put hW (zw_11_0 hW k_a0) h11) ?_
    refine rn_aload_n (q := 0) 0 rfl zd_X11_feed_1.2.2.1.2 ?_
    refine rn_getR zf_X11_10 (Or.inl ⟨_, rfl⟩) k_a0 (zx_11_0 hW k_a0) zd_X11_feed_1.2.2.2.1 ?_
    refine rn_getI zf_X11_83 (Or.inl rfl) (zw_11_0 hW k_a0) zd_X11_feed_1.2.2.2.2 ?_
    cases h
    exact rn_iret zd_X11_feed_2 rfl
  · refine rn_icmp_le_f (tgt := 18) hc1 zd_X11_feed_0.1.2.2.1 rfl ?_
    refine rn_iconst (v := -1) zd_X11_feed_0.1.2.2.2 rfl ?_
    cases h
    exact rn_iret zd_X11_feed_0.2.1.1.1 rfl
def f_X11_back (R : zR) (M : zM) (a0 : Nat) (x1 : Int32) : Option (Int32 × zM) :=
  if x1 < 0 then (
    some ((-1 : Int32), M)
  ) else (
    if x1 ≤ (M (R a0 0) 1) then (
      zlt (zup M (R a0 0) 1 ((M (R a0 0) 1) - x1)) fun M3 =>
      some ((M3 (R a0 0) 1), M3)
    ) else (
      some ((-1 : Int32), M)
    )
  )
set_option maxRecDepth 4000 in
theorem ok_X11_back {G : zG} {K : zK} {R : zR} {M : zM} {L : zL} (hW : zWT R K) {a0 : Nat} {x1 : Int32} (k_a0 : K[a0]? = some (11, 11)) {r' : Int32} {M' : zM} (h : f_X11_back R M a0 x1 = some (r', M')) : Rm G mt_X11_back [.ref a0, .int x1] (M, L, R, K) (some (.int r')) (M', L, R, K) := by
  refine rm_rn rfl rfl (Nat.le_of_ble_eq_true rfl) ?_
  show Rn G mt_X11_back 0 [(0, .ref a0), (1, .int x1)] [] (M, L, R, K) (some (.int r')) (M', L, R, K)
  unfold f_X11_back at h
  refine rn_iload_n (q := 1) 1 rfl zd_X11_back_0.1.1.1.1 ?_
  rcases zif_e h with ⟨hc1, h⟩ | ⟨hc1, h⟩
  · refine rn_if_lt_t (tgt := 15) hc1 zd_X11_back_0.1.1.1.2 rfl ?_
    refine rn_iconst (v := -1) zd_X11_back_0.1.2.2.2 rfl ?_
    cases h
    exact rn_iret zd_X11_back_0.2.1.1.1 rfl
  · refine rn_if_lt_f (tgt := 15) hc1 zd_X11_back_0.1.1.1.2 rfl ?_
    refine rn_iload_n (q := 1) 1 rfl zd_X11_back_0.1.1.2.1 ?_
    refine rn_aload_n (q := 0) 0 rfl zd_X11_back_0.1.1.2.2 ?_
    refine rn_getR zf_X11_10 (Or.inl ⟨_, rfl⟩) k_a0 (zx_11_0 hW k_a0) zd_X11_back_0.1.2.1.1 ?_
    refine rn_getI zf_X11_83 (Or.inl rfl) (zw_11_0 hW k_a0) zd_X11_back_0.1.2.1.2 ?_
    rcases zif_e h with ⟨hc2, h⟩ | ⟨hc2, h⟩
    · refine rn_icmp_le_t (tgt := 17) hc2 zd_X11_back_0.1.2.2.1 rfl ?_
      refine rn_aload_n (q := 0) 0 rfl zd_X11_back_0.2.1.1.2 ?_
      refine rn_getR zf_X11_10 (Or.inl ⟨_, rfl⟩) k_a0 (zx_11_0 hW k_a0) zd_X11_back_0.2.1.2.1 ?_
      refine rn_dup zd_X11_back_0.2.1.2.2 rfl ?_
      refine rn_getI zf_X11_83 (Or.inl rfl) (zw_11_0 hW k_a0) zd_X11_back_0.2.2.1.1 ?_
      refine rn_iload_n (q := 1) 1 rfl zd_X11_back_0.2.2.1.2 ?_
      refine rn_isub zd_X11_back_0.2.2.2.1 ?_
      obtain ⟨M3, hM3, h⟩ := zlt_e h
      refine rn_putI hM3 zf_X11_83 (zw_11_0 hW k_a0) zd_X11_back_0.2.2.2.2 ?_
      refine rn_aload_n (q := 0) 0 rfl zd_X11_back_1.1.1 ?_
      refine rn_getR zf_X11_10 (Or.inl ⟨_, rfl⟩) k_a0 (zx_11_0 hW k_a0) zd_X11_back_1.1.2 ?_
      refine rn_getI zf_X11_83 (Or.inl rfl) (zw_11_0 hW k_a0) zd_X11_back_1.2.1 ?_
      cases h
      exact rn_iret zd_X11_back_1.2.2 rfl
    · refine rn_icmp_le_f (tgt := 17) hc2 zd_X11_back_0.1.2.2.1 rfl ?_
      refine rn_iconst (v := -1) zd_X11_back_0.1.2.2.2 rfl ?_
      cases h
      exact rn_iret zd_X11_back_0.2.1.1.1 rfl
def n_X11_goOnFromSpare (R : zR) (M : zM) (L : zL) (a0 : Nat) : Option (zR × zM × zL) :=
  zlt (zupR R a0 8 (R a0 9)) fun R1 =>
  zlt (zupR R1 a0 9 (R a0 8)) fun R2 =>
  zbd2 (n_X6_begin R2 M L (R2 a0 2) (R2 a0 8)) fun M3 L4 =>
  zbd (f_X2_clear R2 M3 (R2 a0 3)) fun M6 =>
  zbd (f_X10_clear M6 (R2 a0 7)) fun M8 =>
  some (R2, M8, L4)
set_option maxRecDepth 4000 in
theorem ok_X11_goOnFromSpare {G : zG} {K : zK} {R : zR} {M : zM} {L : zL} (hW : zWT R K) {a0 : Nat} (k_a0 : K[a0]? = some (11, 11)) {R' : zR} {M' : zM} {L' : zL} (h : n_X11_goOnFromSpare R M L a0 = some (R', M', L')) : Rm G mt_X11_goOnFromSpare [.ref a0] (M, L, R, K) none (M', L', R', K) := by
  refine rm_rn rfl rfl (Nat.le_of_ble_eq_true rfl) ?_
  show Rn G mt_X11_goOnFromSpare 0 [(0, .ref a0)] [] (M, L, R, K) none (M', L', R', K)
  unfold n_X11_goOnFromSpare at h
  refine rn_aload_n (q := 0) 0 rfl zd_X11_goOnFromSpare_0.1.1.1.1 ?_
  refine rn_getR zf_X11_68 (Or.inl ⟨_, rfl⟩) k_a0 (zx_11_8 hW k_a0) zd_X11_goOnFromSpare_0.1.1.1.2 ?_
  refine rn_astore_n (q := 1) (ls' := [(1, .ref (R a0 8)), (0, .ref a0)]) (by decide) rfl zd_X11_goOnFromSpare_0.1.1.2.1 ?_
  refine rn_aload_n (q := 0) 1 rfl zd_X11_goOnFromSpare_0.1.1.2.2 ?_
  refine rn_aload_n (q := 0) 1 rfl zd_X11_goOnFromSpare_0.1.2.1.1 ?_
  refine rn_getR zf_X11_72 (Or.inl ⟨_, rfl⟩) k_a0 (zx_11_9 hW k_a0) zd_X11_goOnFromSpare_0.1.2.1.2 ?_
  obtain ⟨R1, hR1, h⟩ := zlt_e h
  refine rn_putR hR1 (zne0 hW.1 (zw_11_9 hW k_a0) (by decide)) (Or.inl ⟨_, rfl⟩) (fun q => by cases q) zf_X11_68 k_a0 zd_X11_goOnFromSpare_0.1.2.2.1 ?_
  have hWR1 := zwt_up hW k_a0 (by decide) (kd := (7, 11)) (k := 8) rfl (zw_11_9 hW k_a0) hR1
  refine rn_aload_n (q := 0) 1 rfl zd_X11_goOnFromSpare_0.1.2.2.2 ?_
  refine rn_aload_n (q := 1) 0 rfl zd_X11_goOnFromSpare_0.2.1.1.1 ?_
  obtain ⟨R2, hR2, h⟩ := zlt_e h
  refine rn_putR hR2 (zne0 hWR1.1 (zw_11_8 hW k_a0) (by decide)) (Or.inl ⟨_, rfl⟩) (fun q => by cases q) zf_X11_72 k_a0 zd_X11_goOnFromSpare_0.2.1.1.2 ?_
  have hWR2 := zwt_up hWR1 k_a0 (by decide) (kd := (7, 11)) (k := 9) rfl (zw_11_8 hW k_a0) hR2
  refine rn_aload_n (q := 0) 1 rfl zd_X11_goOnFromSpare_0.2.1.2.1 ?_
  refine rn_getR zf_X11_26 (Or.inl ⟨_, rfl⟩) k_a0 (zx_11_2 hWR2 k_a0) zd_X11_goOnFromSpare_0.2.1.2.2 ?_
  refine rn_aload_n (q := 0) 1 rfl zd_X11_goOnFromSpare_0.2.2.1.1 ?_
  refine rn_getR zf_X11_68 (Or.inl ⟨_, rfl⟩) k_a0 (zx_11_8 hWR2 k_a0) zd_X11_goOnFromSpare_0.2.2.1.2 ?_
  obtain ⟨M3, L4, h5, h⟩ := zbd2_e h
  refine rn_callVv (As := [.ref (R2 a0 8)]) (rest := []) zl_X11_79 zm_X6_begin ⟨by decide, by decide⟩ (ci := 6) rfl rfl (by decide) (zw_11_2 hWR2 k_a0) rfl rfl (Nat.le_of_ble_eq_true rfl) zd_X11_goOnFromSpare_0.2.2.2.1 (ok_X6_begin hWR2 (zw_11_2 hWR2 k_a0) (zw_11_8 hWR2 k_a0) h5) ?_
  refine rn_aload_n (q := 0) 1 rfl zd_X11_goOnFromSpare_0.2.2.2.2 ?_
  refine rn_getR zf_X11_33 (Or.inl ⟨_, rfl⟩) k_a0 (zx_11_3 hWR2 k_a0) zd_X11_goOnFromSpare_1.1.1 ?_
  obtain ⟨M6, h7, h⟩ := zbd_e h
  refine rn_callVv (As := []) (rest := []) zl_X11_100 zm_X2_clear ⟨by decide, by decide⟩ (ci := 2) rfl rfl (by decide) (zw_11_3 hWR2 k_a0) rfl rfl (Nat.le_of_ble_eq_true rfl) zd_X11_goOnFromSpare_1.1.2.1 (ok_X2_clear hWR2 (zw_11_3 hWR2 k_a0) h7) ?_
  refine rn_aload_n (q := 0) 1 rfl zd_X11_goOnFromSpare_1.1.2.2 ?_
  refine rn_getR zf_X11_61 (Or.inl ⟨_, rfl⟩) k_a0 (zx_11_7 hWR2 k_a0) zd_X11_goOnFromSpare_1.2.1 ?_
  obtain ⟨M8, h9, h⟩ := zbd_e h
  refine rn_callVv (As := []) (rest := []) zl_X11_103 zm_X10_clear ⟨by decide, by decide⟩ (ci := 10) rfl rfl (by decide) (zw_11_7 hWR2 k_a0) rfl rfl (Nat.le_of_ble_eq_true rfl) zd_X11_goOnFromSpare_1.2.2.1 (ok_X10_clear hWR2 (zw_11_7 hWR2 k_a0) h9) ?_
  cases h
  exact rn_vret zd_X11_goOnFromSpare_1.2.2.2 rfl
def n_X11_read (R : zR) (M : zM) (L : zL) (a0 : Nat) : Option (Int32 × zR × zM × zL) :=
  zbd3 (f_X5_parse R M L (R a0 1) (R a0 0) (R a0 9)) fun r1 M2 L3 =>
  zlt (zup M2 (R a0 0) 1 (0 : Int32)) fun M5 =>
  zbd (f_X5_faultPlace M5 (R a0 1)) fun r6 =>
  zlt (zup M5 a0 10 r6) fun M8 =>
  if r1 = 0 then (
    zbd3 (n_X11_goOnFromSpare R M8 L3 a0) fun R10 M11 L12 =>
    some (r1, R10, M11, L12)
  ) else (
    some (r1, R, M8, L3)
  )
set_option maxRecDepth 4000 in
theorem ok_X11_read {G : zG} {K : zK} {R : zR} {M : zM} {L : zL} (hW : zWT R K) {a0 : Nat} (k_a0 : K[a0]? = some (11, 11)) {r' : Int32} {R' : zR} {M' : zM} {L' : zL} (h : n_X11_read R M L a0 = some (r', R', M', L')) : Rm G mt_X11_read [.ref a0] (M, L, R, K) (some (.int r')) (M', L', R', K) := by
  refine rm_rn rfl rfl (Nat.le_of_ble_eq_true rfl) ?_
  show Rn G mt_X11_read 0 [(0, .ref a0)] [] (M, L, R, K) (some (.int r')) (M', L', R', K)
  unfold n_X11_read at h
  refine rn_aload_n (q := 0) 0 rfl zd_X11_read_0.1.1.1.1 ?_
  refine rn_getR zf_X11_19 (Or.inl ⟨_, rfl⟩) k_a0 (zx_11_1 hW k_a0) zd_X11_read_0.1.1.1.2 ?_
  refine rn_aload_n (q := 0) 0 rfl zd_X11_read_0.1.1.2.1 ?_
  refine rn_getR zf_X11_10 (Or.inl ⟨_, rfl⟩) k_a0 (zx_11_0 hW k_a0) zd_X11_read_0.1.1.2.2 ?_
  refine rn_aload_n (q := 0) 0 rfl zd_X11_read_0.1.2.1.1 ?_
  refine rn_getR zf_X11_72 (Or.inl ⟨_, rfl⟩) k_a0 (zx_11_9 hW k_a0) zd_X11_read_0.1.2.1.2 ?_
  obtain ⟨r1, M2, L3, h4, h⟩ := zbd3_e h
  refine rn_callVi (As := [.ref (R a0 0), .ref (R a0 9)]) (rest := []) zl_X11_90 zm_X5_parse ⟨by decide, by decide⟩ (ci := 5) rfl rfl (by decide) (zw_11_1 hW k_a0) rfl rfl (Nat.le_of_ble_eq_true rfl) zd_X11_read_0.1.2.2.1 (ok_X5_parse hW (zw_11_1 hW k_a0) (zw_11_0 hW k_a0) (zw_11_9 hW k_a0) h4) ?_
  refine rn_istore_n (q := 1) (ls' := [(1, .int r1), (0, .ref a0)]) (by decide) rfl zd_X11_read_0.1.2.2.2 ?_
  refine rn_aload_n (q := 0) 1 rfl zd_X11_read_0.2.1.1.1 ?_
  refine rn_getR zf_X11_10 (Or.inl ⟨_, rfl⟩) k_a0 (zx_11_0 hW k_a0) zd_X11_read_0.2.1.1.2 ?_
  refine rn_iconst (v := 0) zd_X11_read_0.2.1.2.1 rfl ?_
  obtain ⟨M5, hM5, h⟩ := zlt_e h
  refine rn_putI hM5 zf_X11_83 (zw_11_0 hW k_a0) zd_X11_read_0.2.1.2.2 ?_
  refine rn_aload_n (q := 0) 1 rfl zd_X11_read_0.2.2.1.1 ?_
  refine rn_aload_n (q := 0) 1 rfl zd_X11_read_0.2.2.1.2 ?_
  refine rn_getR zf_X11_19 (Or.inl ⟨_, rfl⟩) k_a0 (zx_11_1 hW k_a0) zd_X11_read_0.2.2.2.1 ?_
  obtain ⟨r6, h7, h⟩ := zbd_e h
  refine rn_callVi (As := []) (rest := [.ref a0]) zl_X11_94 zm_X5_faultPlace ⟨by decide, by decide⟩ (ci := 5) rfl rfl (by decide) (zw_11_1 hW k_a0) rfl rfl (Nat.le_of_ble_eq_true rfl) zd_X11_read_0.2.2.2.2 (ok_X5_faultPlace hW (zw_11_1 hW k_a0) h7) ?_
  obtain ⟨M8, hM8, h⟩ := zlt_e h
  refine rn_putI hM8 zf_X11_75 k_a0 zd_X11_read_1.1.1 ?_
  refine rn_iload_n (q := 1) 0 rfl zd_X11_read_1.1.2.1 ?_
  rcases zif_e h with ⟨hc9, h⟩ | ⟨hc9, h⟩
  · refine rn_if_ne_f (tgt := 43) hc9 zd_X11_read_1.1.2.2 rfl ?_
    refine rn_aload_n (q := 0) 1 rfl zd_X11_read_1.2.1.1 ?_
    obtain ⟨R10, M11, L12, h13, h⟩ := zbd3_e h
    refine rn_callVv (As := []) (rest := []) zl_X11_97 zm_X11_goOnFromSpare ⟨by decide, by decide⟩ (ci := 11) rfl rfl (by decide) k_a0 rfl rfl (Nat.le_of_ble_eq_true rfl) zd_X11_read_1.2.1.2 (ok_X11_goOnFromSpare hW k_a0 h13) ?_
    refine rn_iload_n (q := 1) 0 rfl zd_X11_read_1.2.2.1 ?_
    cases h
    exact rn_iret zd_X11_read_1.2.2.2 rfl
  · refine rn_if_ne_t (tgt := 43) hc9 zd_X11_read_1.1.2.2 rfl ?_
    refine rn_iload_n (q := 1) 0 rfl zd_X11_read_1.2.2.1 ?_
    cases h
    exact rn_iret zd_X11_read_1.2.2.2 rfl
def f_X11_place (M : zM) (a0 : Nat) : Option (Int32) :=
  some (M a0 10)
set_option maxRecDepth 4000 in
theorem ok_X11_place {G : zG} {K : zK} {R : zR} {M : zM} {L : zL} (hW : zWT R K) {a0 : Nat} (k_a0 : K[a0]? = some (11, 11)) {r' : Int32} (h : f_X11_place M a0 = some r') : Rm G mt_X11_place [.ref a0] (M, L, R, K) (some (.int r')) (M, L, R, K) := by
  refine rm_rn rfl rfl (Nat.le_of_ble_eq_true rfl) ?_
  show Rn G mt_X11_place 0 [(0, .ref a0)] [] (M, L, R, K) (some (.int r')) (M, L, R, K)
  unfold f_X11_place at h
  refine rn_aload_n (q := 0) 0 rfl zd_X11_place_0.1 ?_
  refine rn_getI zf_X11_75 (Or.inl rfl) k_a0 zd_X11_place_0.2.1 ?_
  cases h
  exact rn_iret zd_X11_place_0.2.2 rfl
def n_X11_house (R : zR) (M : zM) (L : zL) (a0 : Nat) (x1 : Int32) (x2 : Int32) : Option (Int32 × zM) :=
  zbd (f_X6_has M (R a0 2) x1) fun r1 =>
  if r1 = 0 then (
    some ((-1 : Int32), M)
  ) else (
    if x2 = 0 then (
      zck (zin x1 10) <|
      some ((M (R (R a0 2) 0) (ztn x1)), M)
    ) else (
      if x2 = 1 then (
        zck (zin x1 10) <|
        some ((M (R (R a0 2) 1) (ztn x1)), M)
      ) else (
        if x2 = 2 then (
          zbd (f_X6_shown R M (R a0 2) x1) fun r13 =>
          some (r13, M)
        ) else (
          if x2 = 3 then (
            zbd2 (f_X7_gapOf R M (R a0 8) (R a0 2) x1) fun r15 M16 =>
            some (r15, M16)
          ) else (
            if x2 = 4 then (
              zbd2 (f_X7_wanted R M (R a0 8) (R a0 2) x1) fun r18 M19 =>
              some (r18, M19)
            ) else (
              if x2 = 5 then (
                zck (zin x1 10) <|
                some ((M (R (R a0 2) 2) (ztn x1)), M)
              ) else (
                if x2 = 6 then (
                  zck (zin x1 10) <|
                  some ((L (R (R a0 2) 3) (ztn x1)).toInt32, M)
                ) else (
                  some ((-1 : Int32), M)
                )
              )
            )
          )
        )
      )
    )
  )
set_option maxRecDepth 4000 in
theorem ok_X11_house {G : zG} {K : zK} {R : zR} {M : zM} {L : zL} (hW : zWT R K) {a0 : Nat} {x1 : Int32} {x2 : Int32} (k_a0 : K[a0]? = some (11, 11)) {r' : Int32} {M' : zM} (h : n_X11_house R M L a0 x1 x2 = some (r', M')) : Rm G mt_X11_house [.ref a0, .int x1, .int x2] (M, L, R, K) (some (.int r')) (M', L, R, K) := by
  refine rm_rn rfl rfl (Nat.le_of_ble_eq_true rfl) ?_
  show Rn G mt_X11_house 0 [(0, .ref a0), (1, .int x1), (2, .int x2)] [] (M, L, R, K) (some (.int r')) (M', L, R, K)
  unfold n_X11_house at h
  refine rn_aload_n (q := 0) 0 rfl zd_X11_house_0.1.1.1.1 ?_
  refine rn_getR zf_X11_26 (Or.inl ⟨_, rfl⟩) k_a0 (zx_11_2 hW k_a0) zd_X11_house_0.1.1.1.2 ?_
  refine rn_iload_n (q := 1) 1 rfl zd_X11_house_0.1.1.2.1 ?_
  obtain ⟨r1, h2, h⟩ := zbd_e h
  refine rn_callVi (As := [.int x1]) (rest := []) zl_X11_104 zm_X6_has ⟨by decide, by decide⟩ (ci := 6) rfl rfl (by decide) (zw_11_2 hW k_a0) rfl rfl (Nat.le_of_ble_eq_true rfl) zd_X11_house_0.1.1.2.2 (ok_X6_has hW (zw_11_2 hW k_a0) h2) ?_
  rcases zif_e h with ⟨hc3, h⟩ | ⟨hc3, h⟩
  · refine rn_if_ne_f (tgt := 13) hc3 zd_X11_house_0.1.2.1.1 rfl ?_
    refine rn_iconst (v := -1) zd_X11_house_0.1.2.1.2 rfl ?_
    cases h
    exact rn_iret zd_X11_house_0.1.2.2.1 rfl
  · refine rn_if_ne_t (tgt := 13) hc3 zd_X11_house_0.1.2.1.1 rfl ?_
    refine rn_iload_n (q := 2) 2 rfl zd_X11_house_0.1.2.2.2 ?_
    rcases zif_e h with ⟨hc4, h⟩ | ⟨hc4, h⟩
    · refine rn_tblIn (v := 0) (tgt := 56) zd_X11_house_0.2.1.1.1 (by rw [hc4]; rfl) (by decide) (by decide) rfl rfl ?_
      refine rn_aload_n (q := 0) 0 rfl zd_X11_house_0.2.1.1.2 ?_
      refine rn_getR zf_X11_26 (Or.inl ⟨_, rfl⟩) k_a0 (zx_11_2 hW k_a0) zd_X11_house_0.2.1.2.1 ?_
      refine rn_getR zf_X11_108 (Or.inr ⟨_, rfl⟩) (zw_11_2 hW k_a0) (zx_6_0 hW (zw_11_2 hW k_a0)) zd_X11_house_0.2.1.2.2 ?_
      refine rn_iload_n (q := 1) 1 rfl zd_X11_house_0.2.2.1.1 ?_
      obtain ⟨hc11, h⟩ := zck_e h
      refine rn_iald (zw_6_0 hW (zw_11_2 hW k_a0)) hc11 zd_X11_house_0.2.2.1.2 ?_
      cases h
      exact rn_iret zd_X11_house_0.2.2.2.1 rfl
    · rcases zif_e h with ⟨hc5, h⟩ | ⟨hc5, h⟩
      · refine rn_tblIn (v := 1) (tgt := 66) zd_X11_house_0.2.1.1.1 (by rw [hc5]; rfl) (by decide) (by decide) rfl rfl ?_
        refine rn_aload_n (q := 0) 0 rfl zd_X11_house_0.2.2.2.2 ?_
        refine rn_getR zf_X11_26 (Or.inl ⟨_, rfl⟩) k_a0 (zx_11_2 hW k_a0) zd_X11_house_1.1.1.1.1 ?_
        refine rn_getR zf_X11_112 (Or.inr ⟨_, rfl⟩) (zw_11_2 hW k_a0) (zx_6_1 hW (zw_11_2 hW k_a0)) zd_X11_house_1.1.1.1.2 ?_
        refine rn_iload_n (q := 1) 1 rfl zd_X11_house_1.1.1.2.1 ?_
        obtain ⟨hc12, h⟩ := zck_e h
        refine rn_iald (zw_6_1 hW (zw_11_2 hW k_a0)) hc12 zd_X11_house_1.1.1.2.2 ?_
        cases h
        exact rn_iret zd_X11_house_1.1.2.1.1 rfl
      · rcases zif_e h with ⟨hc6, h⟩ | ⟨hc6, h⟩
        · refine rn_tblIn (v := 2) (tgt := 76) zd_X11_house_0.2.1.1.1 (by rw [hc6]; rfl) (by decide) (by decide) rfl rfl ?_
          refine rn_aload_n (q := 0) 0 rfl zd_X11_house_1.1.2.1.2 ?_
          refine rn_getR zf_X11_26 (Or.inl ⟨_, rfl⟩) k_a0 (zx_11_2 hW k_a0) zd_X11_house_1.1.2.2.1 ?_
          refine rn_iload_n (q := 1) 1 rfl zd_X11_house_1.1.2.2.2 ?_
          obtain ⟨r13, h14, h⟩ := zbd_e h
          refine rn_callVi (As := [.int x1]) (rest := []) zl_X11_115 zm_X6_shown ⟨by decide, by decide⟩ (ci := 6) rfl rfl (by decide) (zw_11_2 hW k_a0) rfl rfl (Nat.le_of_ble_eq_true rfl) zd_X11_house_1.2.1.1.1 (ok_X6_shown hW (zw_11_2 hW k_a0) h14) ?_
          cases h
          exact rn_iret zd_X11_house_1.2.1.1.2 rfl
        · rcases zif_e h with ⟨hc7, h⟩ | ⟨hc7, h⟩
          · refine rn_tblIn (v := 3) (tgt := 85) zd_X11_house_0.2.1.1.1 (by rw [hc7]; rfl) (by decide) (by decide) rfl rfl ?_
            refine rn_aload_n (q := 0) 0 rfl zd_X11_house_1.2.1.2.1 ?_
            refine rn_getR zf_X11_68 (Or.inl ⟨_, rfl⟩) k_a0 (zx_11_8 hW k_a0) zd_X11_house_1.2.1.2.2 ?_
            refine rn_aload_n (q := 0) 0 rfl zd_X11_house_1.2.2.1.1 ?_
            refine rn_getR zf_X11_26 (Or.inl ⟨_, rfl⟩) k_a0 (zx_11_2 hW k_a0) zd_X11_house_1.2.2.1.2 ?_
            refine rn_iload_n (q := 1) 1 rfl zd_X11_house_1.2.2.2.1 ?_
            obtain ⟨r15, M16, h17, h⟩ := zbd2_e h
            refine rn_callVi (As := [.ref (R a0 2), .int x1]) (rest := []) zl_X11_119 zm_X7_gapOf ⟨by decide, by decide⟩ (ci := 7) rfl rfl (by decide) (zw_11_8 hW k_a0) rfl rfl (Nat.le_of_ble_eq_true rfl) zd_X11_house_1.2.2.2.2 (ok_X7_gapOf hW (zw_11_8 hW k_a0) (zw_11_2 hW k_a0) h17) ?_
            cases h
            exact rn_iret zd_X11_house_2.1.1.1.1 rfl
          · rcases zif_e h with ⟨hc8, h⟩ | ⟨hc8, h⟩
            · refine rn_tblIn (v := 4) (tgt := 98) zd_X11_house_0.2.1.1.1 (by rw [hc8]; rfl) (by decide) (by decide) rfl rfl ?_
              refine rn_aload_n (q := 0) 0 rfl zd_X11_house_2.1.1.1.2 ?_
              refine rn_getR zf_X11_68 (Or.inl ⟨_, rfl⟩) k_a0 (zx_11_8 hW k_a0) zd_X11_house_2.1.1.2.1 ?_
              refine rn_aload_n (q := 0) 0 rfl zd_X11_house_2.1.1.2.2 ?_
              refine rn_getR zf_X11_26 (Or.inl ⟨_, rfl⟩) k_a0 (zx_11_2 hW k_a0) zd_X11_house_2.1.2.1.1 ?_
              refine rn_iload_n (q := 1) 1 rfl zd_X11_house_2.1.2.1.2 ?_
              obtain ⟨r18, M19, h20, h⟩ := zbd2_e h
              refine rn_callVi (As := [.ref (R a0 2), .int x1]) (rest := []) zl_X11_123 zm_X7_wanted ⟨by decide, by decide⟩ (ci := 7) rfl rfl (by decide) (zw_11_8 hW k_a0) rfl rfl (Nat.le_of_ble_eq_true rfl) zd_X11_house_2.1.2.2.1 (ok_X7_wanted hW (zw_11_8 hW k_a0) (zw_11_2 hW k_a0) h20) ?_
              cases h
              exact rn_iret zd_X11_house_2.1.2.2.2 rfl
            · rcases zif_e h with ⟨hc9, h⟩ | ⟨hc9, h⟩
              · refine rn_tblIn (v := 5) (tgt := 111) zd_X11_house_0.2.1.1.1 (by rw [hc9]; rfl) (by decide) (by decide) rfl rfl ?_
                refine rn_aload_n (q := 0) 0 rfl zd_X11_house_2.2.1.1.1 ?_
                refine rn_getR zf_X11_26 (Or.inl ⟨_, rfl⟩) k_a0 (zx_11_2 hW k_a0) zd_X11_house_2.2.1.1.2 ?_
                refine rn_getR zf_X11_126 (Or.inr ⟨_, rfl⟩) (zw_11_2 hW k_a0) (zx_6_2 hW (zw_11_2 hW k_a0)) zd_X11_house_2.2.1.2.1 ?_
                refine rn_iload_n (q := 1) 1 rfl zd_X11_house_2.2.1.2.2 ?_
                obtain ⟨hc21, h⟩ := zck_e h
                refine rn_iald (zw_6_2 hW (zw_11_2 hW k_a0)) hc21 zd_X11_house_2.2.2.1.1 ?_
                cases h
                exact rn_iret zd_X11_house_2.2.2.1.2 rfl
              · rcases zif_e h with ⟨hc10, h⟩ | ⟨hc10, h⟩
                · refine rn_tblIn (v := 6) (tgt := 121) zd_X11_house_0.2.1.1.1 (by rw [hc10]; rfl) (by decide) (by decide) rfl rfl ?_
                  refine rn_aload_n (q := 0) 0 rfl zd_X11_house_2.2.2.2.1 ?_
                  refine rn_getR zf_X11_26 (Or.inl ⟨_, rfl⟩) k_a0 (zx_11_2 hW k_a0) zd_X11_house_2.2.2.2.2 ?_
                  refine rn_getR zf_X11_129 (Or.inr ⟨_, rfl⟩) (zw_11_2 hW k_a0) (zx_6_3 hW (zw_11_2 hW k_a0)) zd_X11_house_3.1.1 ?_
                  refine rn_iload_n (q := 1) 1 rfl zd_X11_house_3.1.2.1 ?_
                  obtain ⟨hc22, h⟩ := zck_e h
                  refine rn_lald (zw_6_3 hW (zw_11_2 hW k_a0)) hc22 zd_X11_house_3.1.2.2 ?_
                  refine rn_l2i zd_X11_house_3.2.1.1 ?_
                  cases h
                  exact rn_iret zd_X11_house_3.2.1.2 rfl
                · have ht : x2.toInt < 0 ∨ 6 < x2.toInt := by
                    have q0 := zto (n := 0) hc4 rfl
                    have q1 := zto (n := 1) hc5 rfl
                    have q2 := zto (n := 2) hc6 rfl
                    have q3 := zto (n := 3) hc7 rfl
                    have q4 := zto (n := 4) hc8 rfl
                    have q5 := zto (n := 5) hc9 rfl
                    have q6 := zto (n := 6) hc10 rfl
                    omega
                  refine rn_tblOut (tgt := 132) zd_X11_house_0.2.1.1.1 ht rfl ?_
                  refine rn_iconst (v := -1) zd_X11_house_3.2.2.1 rfl ?_
                  cases h
                  exact rn_iret zd_X11_house_3.2.2.2 rfl
def f_X11_isEvenings (x0 : Int32) : Option (Int32) :=
  if x0 < 0 then (
    some (0 : Int32)
  ) else (
    if (300 : Int32) < x0 then (
      some (0 : Int32)
    ) else (
      some (1 : Int32)
    )
  )
set_option maxRecDepth 4000 in
theorem ok_X11_isEvenings {G : zG} {K : zK} {R : zR} {M : zM} {L : zL} (hW : zWT R K) {x0 : Int32} {r' : Int32} (h : f_X11_isEvenings x0 = some r') : Rm G mt_X11_isEvenings [.int x0] (M, L, R, K) (some (.int r')) (M, L, R, K) := by
  refine rm_rn rfl rfl (Nat.le_of_ble_eq_true rfl) ?_
  show Rn G mt_X11_isEvenings 0 [(0, .int x0)] [] (M, L, R, K) (some (.int r')) (M, L, R, K)
  unfold f_X11_isEvenings at h
  refine rn_iload_n (q := 0) 0 rfl zd_X11_isEvenings_0.1.1.1 ?_
  rcases zif_e h with ⟨hc1, h⟩ | ⟨hc1, h⟩
  · refine rn_if_lt_t (tgt := 15) hc1 zd_X11_isEvenings_0.1.1.2 rfl ?_
    refine rn_iconst (v := 0) zd_X11_isEvenings_0.2.2.2.1 rfl ?_
    cases h
    exact rn_zret zd_X11_isEvenings_0.2.2.2.2 rfl rfl
  · refine rn_if_lt_f (tgt := 15) hc1 zd_X11_isEvenings_0.1.1.2 rfl ?_
    refine rn_iload_n (q := 0) 0 rfl zd_X11_isEvenings_0.1.2.1 ?_
    refine rn_sipush (v := 300) zd_X11_isEvenings_0.1.2.2 rfl ?_
    rcases zif_e h with ⟨hc2, h⟩ | ⟨hc2, h⟩
    · refine rn_icmp_gt_t (tgt := 15) hc2 zd_X11_isEvenings_0.2.1.1 rfl ?_
      refine rn_iconst (v := 0) zd_X11_isEvenings_0.2.2.2.1 rfl ?_
      cases h
      exact rn_zret zd_X11_isEvenings_0.2.2.2.2 rfl rfl
    · refine rn_icmp_gt_f (tgt := 15) hc2 zd_X11_isEvenings_0.2.1.1 rfl ?_
      refine rn_iconst (v := 1) zd_X11_isEvenings_0.2.1.2 rfl ?_
      refine rn_goto (tgt := 16) zd_X11_isEvenings_0.2.2.1 rfl ?_
      cases h
      exact rn_zret zd_X11_isEvenings_0.2.2.2.2 rfl rfl
def nj_X11_run_43 (R : zR) (M : zM) (L : zL) (a0 : Nat) : Option (Int32 × zM × zL) :=
  some ((M (R a0 2) 6), M, L)
set_option maxRecDepth 4000 in
theorem ok_j_X11_run_43 {G : zG} {K : zK} {R : zR} {M : zM} {L : zL} (hW : zWT R K) {a0 : Nat} (k_a0 : K[a0]? = some (11, 11)) {r' : Int32} {M' : zM} {L' : zL} (h : nj_X11_run_43 R M L a0 = some (r', M', L')) : Rn G mt_X11_run 43 [(0, .ref a0)] [] (M, L, R, K) (some (.int r')) (M', L', R, K) := by
  unfold nj_X11_run_43 at h
  refine rn_aload_n (q := 0) 0 rfl zd_X11_run_1.2.1.2 ?_
  refine rn_getR zf_X11_26 (Or.inl ⟨_, rfl⟩) k_a0 (zx_11_2 hW k_a0) zd_X11_run_1.2.2.1 ?_
  refine rn_getI zf_X11_147 (Or.inl rfl) (zw_11_2 hW k_a0) zd_X11_run_1.2.2.2.1 ?_
  cases h
  exact rn_iret zd_X11_run_1.2.2.2.2 rfl
def n_X11_run (R : zR) (M : zM) (L : zL) (a0 : Nat) (x1 : Int32) : Option (Int32 × zM × zL) :=
  zbd (f_X11_isEvenings x1) fun r1 =>
  if r1 = 0 then (
    some ((-1 : Int32), M, L)
  ) else (
    if x1 ≤ 0 then (
      nj_X11_run_43 R M L a0
    ) else (
      zbd2 (n_X2_note R M L (R a0 3) (R a0 2)) fun M5 L6 =>
      zbd2 (n_X7_evenings R M5 L6 (R a0 8) (R a0 2) x1 (M5 (R a0 8) 8)) fun M8 L9 =>
      nj_X11_run_43 R M8 L9 a0
    )
  )
set_option maxRecDepth 4000 in
theorem ok_X11_run {G : zG} {K : zK} {R : zR} {M : zM} {L : zL} (hW : zWT R K) {a0 : Nat} {x1 : Int32} (k_a0 : K[a0]? = some (11, 11)) {r' : Int32} {M' : zM} {L' : zL} (h : n_X11_run R M L a0 x1 = some (r', M', L')) : Rm G mt_X11_run [.ref a0, .int x1] (M, L, R, K) (some (.int r')) (M', L', R, K) := by
  refine rm_rn rfl rfl (Nat.le_of_ble_eq_true rfl) ?_
  show Rn G mt_X11_run 0 [(0, .ref a0), (1, .int x1)] [] (M, L, R, K) (some (.int r')) (M', L', R, K)
  unfold n_X11_run at h
  refine rn_iload_n (q := 1) 1 rfl zd_X11_run_0.1.1.1.1 ?_
  obtain ⟨r1, h2, h⟩ := zbd_e h
  refine rn_callSi (As := [.int x1]) (rest := []) zl_X11_133 zm_X11_isEvenings ⟨by decide, by decide⟩ rfl rfl (Nat.le_of_ble_eq_true rfl) zd_X11_run_0.1.1.1.2 (ok_X11_isEvenings hW h2) ?_
  rcases zif_e h with ⟨hc3, h⟩ | ⟨hc3, h⟩
  · refine rn_if_ne_f (tgt := 9) hc3 zd_X11_run_0.1.1.2.1 rfl ?_
    refine rn_iconst (v := -1) zd_X11_run_0.1.1.2.2 rfl ?_
    cases h
    exact rn_iret zd_X11_run_0.1.2.1.1 rfl
  · refine rn_if_ne_t (tgt := 9) hc3 zd_X11_run_0.1.1.2.1 rfl ?_
    refine rn_iload_n (q := 1) 1 rfl zd_X11_run_0.1.2.1.2 ?_
    rcases zif_e h with ⟨hc4, h⟩ | ⟨hc4, h⟩
    · refine rn_if_le_t (tgt := 43) hc4 zd_X11_run_0.1.2.2.1 rfl ?_
      exact rn_sub (ls' := [(0, .ref a0)]) [0] rfl (ok_j_X11_run_43 hW k_a0 h)
    · refine rn_if_le_f (tgt := 43) hc4 zd_X11_run_0.1.2.2.1 rfl ?_
      refine rn_aload_n (q := 0) 0 rfl zd_X11_run_0.1.2.2.2 ?_
      refine rn_getR zf_X11_33 (Or.inl ⟨_, rfl⟩) k_a0 (zx_11_3 hW k_a0) zd_X11_run_0.2.1.1.1 ?_
      refine rn_aload_n (q := 0) 0 rfl zd_X11_run_0.2.1.1.2 ?_
      refine rn_getR zf_X11_26 (Or.inl ⟨_, rfl⟩) k_a0 (zx_11_2 hW k_a0) zd_X11_run_0.2.1.2.1 ?_
      obtain ⟨M5, L6, h7, h⟩ := zbd2_e h
      refine rn_callVv (As := [.ref (R a0 2)]) (rest := []) zl_X11_136 zm_X2_note ⟨by decide, by decide⟩ (ci := 2) rfl rfl (by decide) (zw_11_3 hW k_a0) rfl rfl (Nat.le_of_ble_eq_true rfl) zd_X11_run_0.2.1.2.2 (ok_X2_note hW (zw_11_3 hW k_a0) (zw_11_2 hW k_a0) h7) ?_
      refine rn_aload_n (q := 0) 0 rfl zd_X11_run_0.2.2.1.1 ?_
      refine rn_getR zf_X11_68 (Or.inl ⟨_, rfl⟩) k_a0 (zx_11_8 hW k_a0) zd_X11_run_0.2.2.1.2 ?_
      refine rn_aload_n (q := 0) 0 rfl zd_X11_run_0.2.2.2.1 ?_
      refine rn_getR zf_X11_26 (Or.inl ⟨_, rfl⟩) k_a0 (zx_11_2 hW k_a0) zd_X11_run_0.2.2.2.2 ?_
      refine rn_iload_n (q := 1) 1 rfl zd_X11_run_1.1.1.1 ?_
      refine rn_aload_n (q := 0) 0 rfl zd_X11_run_1.1.1.2 ?_
      refine rn_getR zf_X11_68 (Or.inl ⟨_, rfl⟩) k_a0 (zx_11_8 hW k_a0) zd_X11_run_1.1.2.1 ?_
      refine rn_getI zf_X11_140 (Or.inl rfl) (zw_11_8 hW k_a0) zd_X11_run_1.1.2.2 ?_
      obtain ⟨M8, L9, h10, h⟩ := zbd2_e h
      refine rn_callVv (As := [.ref (R a0 2), .int x1, .int (M5 (R a0 8) 8)]) (rest := []) zl_X11_143 zm_X7_evenings ⟨by decide, by decide⟩ (ci := 7) rfl rfl (by decide) (zw_11_8 hW k_a0) rfl rfl (Nat.le_of_ble_eq_true rfl) zd_X11_run_1.2.1.1 (ok_X7_evenings hW (zw_11_8 hW k_a0) (zw_11_2 hW k_a0) h10) ?_
      exact rn_sub (ls' := [(0, .ref a0)]) [0] rfl (ok_j_X11_run_43 hW k_a0 h)
def n_X11_give (R : zR) (M : zM) (L : zL) (a0 : Nat) (x1 : Int32) (x2 : Int32) (x3 : Int32) : Option (Int32 × zM × zL) :=
  zbd (f_X6_has M (R a0 2) x1) fun r1 =>
  if r1 = 0 then (
    some ((0 : Int32), M, L)
  ) else (
    zbd (f_X6_has M (R a0 2) x2) fun r4 =>
    if r4 = 0 then (
      some ((0 : Int32), M, L)
    ) else (
      if x1 = x2 then (
        some ((0 : Int32), M, L)
      ) else (
        if x3 < 0 then (
          some ((0 : Int32), M, L)
        ) else (
          zbd (f_X6_shown R M (R a0 2) x1) fun r9 =>
          if x3 ≤ r9 then (
            zbd2 (n_X2_note R M L (R a0 3) (R a0 2)) fun M12 L13 =>
            zbd (f_X6_move R M12 (R a0 2) x1 x2 x3) fun M15 =>
            some ((1 : Int32), M15, L13)
          ) else (
            some ((0 : Int32), M, L)
          )
        )
      )
    )
  )
set_option maxRecDepth 4000 in
theorem ok_X11_give {G : zG} {K : zK} {R : zR} {M : zM} {L : zL} (hW : zWT R K) {a0 : Nat} {x1 : Int32} {x2 : Int32} {x3 : Int32} (k_a0 : K[a0]? = some (11, 11)) {r' : Int32} {M' : zM} {L' : zL} (h : n_X11_give R M L a0 x1 x2 x3 = some (r', M', L')) : Rm G mt_X11_give [.ref a0, .int x1, .int x2, .int x3] (M, L, R, K) (some (.int r')) (M', L', R, K) := by
  refine rm_rn rfl rfl (Nat.le_of_ble_eq_true rfl) ?_
  show Rn G mt_X11_give 0 [(0, .ref a0), (1, .int x1), (2, .int x2), (3, .int x3)] [] (M, L, R, K) (some (.int r')) (M', L', R, K)
  unfold n_X11_give at h
  refine rn_aload_n (q := 0) 0 rfl zd_X11_give_0.1.1.1.1 ?_
  refine rn_getR zf_X11_26 (Or.inl ⟨_, rfl⟩) k_a0 (zx_11_2 hW k_a0) zd_X11_give_0.1.1.1.2 ?_
  refine rn_iload_n (q := 1) 1 rfl zd_X11_give_0.1.1.2.1 ?_
  obtain ⟨r1, h2, h⟩ := zbd_e h
  refine rn_callVi (As := [.int x1]) (rest := []) zl_X11_104 zm_X6_has ⟨by decide, by decide⟩ (ci := 6) rfl rfl (by decide) (zw_11_2 hW k_a0) rfl rfl (Nat.le_of_ble_eq_true rfl) zd_X11_give_0.1.1.2.2 (ok_X6_has hW (zw_11_2 hW k_a0) h2) ?_
  rcases zif_e h with ⟨hc3, h⟩ | ⟨hc3, h⟩
  · refine rn_if_eq_t (tgt := 27) hc3 zd_X11_give_0.1.2.1.1 rfl ?_
    refine rn_iconst (v := 0) zd_X11_give_0.2.2.1.2 rfl ?_
    cases h
    exact rn_zret zd_X11_give_0.2.2.2.1 rfl rfl
  · refine rn_if_eq_f (tgt := 27) hc3 zd_X11_give_0.1.2.1.1 rfl ?_
    refine rn_aload_n (q := 0) 0 rfl zd_X11_give_0.1.2.1.2 ?_
    refine rn_getR zf_X11_26 (Or.inl ⟨_, rfl⟩) k_a0 (zx_11_2 hW k_a0) zd_X11_give_0.1.2.2.1 ?_
    refine rn_iload_n (q := 2) 2 rfl zd_X11_give_0.1.2.2.2 ?_
    obtain ⟨r4, h5, h⟩ := zbd_e h
    refine rn_callVi (As := [.int x2]) (rest := []) zl_X11_104 zm_X6_has ⟨by decide, by decide⟩ (ci := 6) rfl rfl (by decide) (zw_11_2 hW k_a0) rfl rfl (Nat.le_of_ble_eq_true rfl) zd_X11_give_0.2.1.1.1 (ok_X6_has hW (zw_11_2 hW k_a0) h5) ?_
    rcases zif_e h with ⟨hc6, h⟩ | ⟨hc6, h⟩
    · refine rn_if_eq_t (tgt := 27) hc6 zd_X11_give_0.2.1.1.2 rfl ?_
      refine rn_iconst (v := 0) zd_X11_give_0.2.2.1.2 rfl ?_
      cases h
      exact rn_zret zd_X11_give_0.2.2.2.1 rfl rfl
    · refine rn_if_eq_f (tgt := 27) hc6 zd_X11_give_0.2.1.1.2 rfl ?_
      refine rn_iload_n (q := 1) 1 rfl zd_X11_give_0.2.1.2.1 ?_
      refine rn_iload_n (q := 2) 2 rfl zd_X11_give_0.2.1.2.2 ?_
      rcases zif_e h with ⟨hc7, h⟩ | ⟨hc7, h⟩
      · refine rn_icmp_ne_f (tgt := 29) hc7 zd_X11_give_0.2.2.1.1 rfl ?_
        refine rn_iconst (v := 0) zd_X11_give_0.2.2.1.2 rfl ?_
        cases h
        exact rn_zret zd_X11_give_0.2.2.2.1 rfl rfl
      · refine rn_icmp_ne_t (tgt := 29) hc7 zd_X11_give_0.2.2.1.1 rfl ?_
        refine rn_iload_n (q := 3) 3 rfl zd_X11_give_0.2.2.2.2 ?_
        rcases zif_e h with ⟨hc8, h⟩ | ⟨hc8, h⟩
        · refine rn_if_lt_t (tgt := 45) hc8 zd_X11_give_1.1.1.1.1 rfl ?_
          refine rn_iconst (v := 0) zd_X11_give_1.1.2.2.2 rfl ?_
          cases h
          exact rn_zret zd_X11_give_1.2.1.1.1 rfl rfl
        · refine rn_if_lt_f (tgt := 45) hc8 zd_X11_give_1.1.1.1.1 rfl ?_
          refine rn_iload_n (q := 3) 3 rfl zd_X11_give_1.1.1.1.2 ?_
          refine rn_aload_n (q := 0) 0 rfl zd_X11_give_1.1.1.2.1 ?_
          refine rn_getR zf_X11_26 (Or.inl ⟨_, rfl⟩) k_a0 (zx_11_2 hW k_a0) zd_X11_give_1.1.1.2.2 ?_
          refine rn_iload_n (q := 1) 1 rfl zd_X11_give_1.1.2.1.1 ?_
          obtain ⟨r9, h10, h⟩ := zbd_e h
          refine rn_callVi (As := [.int x1]) (rest := [.int x3]) zl_X11_115 zm_X6_shown ⟨by decide, by decide⟩ (ci := 6) rfl rfl (by decide) (zw_11_2 hW k_a0) rfl rfl (Nat.le_of_ble_eq_true rfl) zd_X11_give_1.1.2.1.2 (ok_X6_shown hW (zw_11_2 hW k_a0) h10) ?_
          rcases zif_e h with ⟨hc11, h⟩ | ⟨hc11, h⟩
          · refine rn_icmp_le_t (tgt := 47) hc11 zd_X11_give_1.1.2.2.1 rfl ?_
            refine rn_aload_n (q := 0) 0 rfl zd_X11_give_1.2.1.1.2 ?_
            refine rn_getR zf_X11_33 (Or.inl ⟨_, rfl⟩) k_a0 (zx_11_3 hW k_a0) zd_X11_give_1.2.1.2.1 ?_
            refine rn_aload_n (q := 0) 0 rfl zd_X11_give_1.2.1.2.2 ?_
            refine rn_getR zf_X11_26 (Or.inl ⟨_, rfl⟩) k_a0 (zx_11_2 hW k_a0) zd_X11_give_1.2.2.1.1 ?_
            obtain ⟨M12, L13, h14, h⟩ := zbd2_e h
            refine rn_callVv (As := [.ref (R a0 2)]) (rest := []) zl_X11_136 zm_X2_note ⟨by decide, by decide⟩ (ci := 2) rfl rfl (by decide) (zw_11_3 hW k_a0) rfl rfl (Nat.le_of_ble_eq_true rfl) zd_X11_give_1.2.2.1.2 (ok_X2_note hW (zw_11_3 hW k_a0) (zw_11_2 hW k_a0) h14) ?_
            refine rn_aload_n (q := 0) 0 rfl zd_X11_give_1.2.2.2.1 ?_
            refine rn_getR zf_X11_26 (Or.inl ⟨_, rfl⟩) k_a0 (zx_11_2 hW k_a0) zd_X11_give_1.2.2.2.2 ?_
            refine rn_iload_n (q := 1) 1 rfl zd_X11_give_2.1.1 ?_
            refine rn_iload_n (q := 2) 2 rfl zd_X11_give_2.1.2.1 ?_
            refine rn_iload_n (q := 3) 3 rfl zd_X11_give_2.1.2.2 ?_
            obtain ⟨M15, h16, h⟩ := zbd_e h
            refine rn_callVv (As := [.int x1, .int x2, .int x3]) (rest := []) zl_X11_150 zm_X6_move ⟨by decide, by decide⟩ (ci := 6) rfl rfl (by decide) (zw_11_2 hW k_a0) rfl rfl (Nat.le_of_ble_eq_true rfl) zd_X11_give_2.2.1 (ok_X6_move hW (zw_11_2 hW k_a0) h16) ?_
            refine rn_iconst (v := 1) zd_X11_give_2.2.2.1 rfl ?_
            cases h
            exact rn_zret zd_X11_give_2.2.2.2 rfl rfl
          · refine rn_icmp_le_f (tgt := 47) hc11 zd_X11_give_1.1.2.2.1 rfl ?_
            refine rn_iconst (v := 0) zd_X11_give_1.1.2.2.2 rfl ?_
            cases h
            exact rn_zret zd_X11_give_1.2.1.1.1 rfl rfl
def n_X11_hide (R : zR) (M : zM) (L : zL) (a0 : Nat) (x1 : Int32) (x2 : Int32) : Option (Int32 × zM × zL) :=
  zbd (f_X6_has M (R a0 2) x1) fun r1 =>
  if r1 = 0 then (
    some ((0 : Int32), M, L)
  ) else (
    if x2 < 0 then (
      some ((0 : Int32), M, L)
    ) else (
      zck (zin x1 10) <|
      if x2 ≤ (M (R (R a0 2) 0) (ztn x1)) then (
        zbd2 (n_X2_note R M L (R a0 3) (R a0 2)) fun M7 L8 =>
        zck (zin x1 10) <|
        zlt (zup M7 (R (R a0 2) 1) (ztn x1) x2) fun M11 =>
        some ((1 : Int32), M11, L8)
      ) else (
        some ((0 : Int32), M, L)
      )
    )
  )
set_option maxRecDepth 4000 in
theorem ok_X11_hide {G : zG} {K : zK} {R : zR} {M : zM} {L : zL} (hW : zWT R K) {a0 : Nat} {x1 : Int32} {x2 : Int32} (k_a0 : K[a0]? = some (11, 11)) {r' : Int32} {M' : zM} {L' : zL} (h : n_X11_hide R M L a0 x1 x2 = some (r', M', L')) : Rm G mt_X11_hide [.ref a0, .int x1, .int x2] (M, L, R, K) (some (.int r')) (M', L', R, K) := by
  refine rm_rn rfl rfl (Nat.le_of_ble_eq_true rfl) ?_
  show Rn G mt_X11_hide 0 [(0, .ref a0), (1, .int x1), (2, .int x2)] [] (M, L, R, K) (some (.int r')) (M', L', R, K)
  unfold n_X11_hide at h
  refine rn_aload_n (q := 0) 0 rfl zd_X11_hide_0.1.1.1.1 ?_
  refine rn_getR zf_X11_26 (Or.inl ⟨_, rfl⟩) k_a0 (zx_11_2 hW k_a0) zd_X11_hide_0.1.1.1.2 ?_
  refine rn_iload_n (q := 1) 1 rfl zd_X11_hide_0.1.1.2.1 ?_
  obtain ⟨r1, h2, h⟩ := zbd_e h
  refine rn_callVi (As := [.int x1]) (rest := []) zl_X11_104 zm_X6_has ⟨by decide, by decide⟩ (ci := 6) rfl rfl (by decide) (zw_11_2 hW k_a0) rfl rfl (Nat.le_of_ble_eq_true rfl) zd_X11_hide_0.1.1.2.2 (ok_X6_has hW (zw_11_2 hW k_a0) h2) ?_
  rcases zif_e h with ⟨hc3, h⟩ | ⟨hc3, h⟩
  · refine rn_if_eq_t (tgt := 28) hc3 zd_X11_hide_0.1.2.1.1 rfl ?_
    refine rn_iconst (v := 0) zd_X11_hide_0.2.2.2.1 rfl ?_
    cases h
    exact rn_zret zd_X11_hide_0.2.2.2.2 rfl rfl
  · refine rn_if_eq_f (tgt := 28) hc3 zd_X11_hide_0.1.2.1.1 rfl ?_
    refine rn_iload_n (q := 2) 2 rfl zd_X11_hide_0.1.2.1.2 ?_
    rcases zif_e h with ⟨hc4, h⟩ | ⟨hc4, h⟩
    · refine rn_if_lt_t (tgt := 28) hc4 zd_X11_hide_0.1.2.2.1 rfl ?_
      refine rn_iconst (v := 0) zd_X11_hide_0.2.2.2.1 rfl ?_
      cases h
      exact rn_zret zd_X11_hide_0.2.2.2.2 rfl rfl
    · refine rn_if_lt_f (tgt := 28) hc4 zd_X11_hide_0.1.2.2.1 rfl ?_
      refine rn_iload_n (q := 2) 2 rfl zd_X11_hide_0.1.2.2.2 ?_
      refine rn_aload_n (q := 0) 0 rfl zd_X11_hide_0.2.1.1.1 ?_
      refine rn_getR zf_X11_26 (Or.inl ⟨_, rfl⟩) k_a0 (zx_11_2 hW k_a0) zd_X11_hide_0.2.1.1.2 ?_
      refine rn_getR zf_X11_108 (Or.inr ⟨_, rfl⟩) (zw_11_2 hW k_a0) (zx_6_0 hW (zw_11_2 hW k_a0)) zd_X11_hide_0.2.1.2.1 ?_
      refine rn_iload_n (q := 1) 1 rfl zd_X11_hide_0.2.1.2.2 ?_
      obtain ⟨hc5, h⟩ := zck_e h
      refine rn_iald (zw_6_0 hW (zw_11_2 hW k_a0)) hc5 zd_X11_hide_0.2.2.1.1 ?_
      rcases zif_e h with ⟨hc6, h⟩ | ⟨hc6, h⟩
      · refine rn_icmp_le_t (tgt := 30) hc6 zd_X11_hide_0.2.2.1.2 rfl ?_
        refine rn_aload_n (q := 0) 0 rfl zd_X11_hide_1.1.1.1 ?_
        refine rn_getR zf_X11_33 (Or.inl ⟨_, rfl⟩) k_a0 (zx_11_3 hW k_a0) zd_X11_hide_1.1.1.2.1 ?_
        refine rn_aload_n (q := 0) 0 rfl zd_X11_hide_1.1.1.2.2 ?_
        refine rn_getR zf_X11_26 (Or.inl ⟨_, rfl⟩) k_a0 (zx_11_2 hW k_a0) zd_X11_hide_1.1.2.1 ?_
        obtain ⟨M7, L8, h9, h⟩ := zbd2_e h
        refine rn_callVv (As := [.ref (R a0 2)]) (rest := []) zl_X11_136 zm_X2_note ⟨by decide, by decide⟩ (ci := 2) rfl rfl (by decide) (zw_11_3 hW k_a0) rfl rfl (Nat.le_of_ble_eq_true rfl) zd_X11_hide_1.1.2.2.1 (ok_X2_note hW (zw_11_3 hW k_a0) (zw_11_2 hW k_a0) h9) ?_
        refine rn_aload_n (q := 0) 0 rfl zd_X11_hide_1.1.2.2.2 ?_
        refine rn_getR zf_X11_26 (Or.inl ⟨_, rfl⟩) k_a0 (zx_11_2 hW k_a0) zd_X11_hide_1.2.1.1 ?_
        refine rn_getR zf_X11_112 (Or.inr ⟨_, rfl⟩) (zw_11_2 hW k_a0) (zx_6_1 hW (zw_11_2 hW k_a0)) zd_X11_hide_1.2.1.2.1 ?_
        refine rn_iload_n (q := 1) 1 rfl zd_X11_hide_1.2.1.2.2 ?_
        refine rn_iload_n (q := 2) 2 rfl zd_X11_hide_1.2.2.1.1 ?_
        obtain ⟨hc10, h⟩ := zck_e h
        obtain ⟨M11, hM11, h⟩ := zlt_e h
        refine rn_iast hM11 (zw_6_1 hW (zw_11_2 hW k_a0)) hc10 zd_X11_hide_1.2.2.1.2 ?_
        refine rn_iconst (v := 1) zd_X11_hide_1.2.2.2.1 rfl ?_
        cases h
        exact rn_zret zd_X11_hide_1.2.2.2.2 rfl rfl
      · refine rn_icmp_le_f (tgt := 30) hc6 zd_X11_hide_0.2.2.1.2 rfl ?_
        refine rn_iconst (v := 0) zd_X11_hide_0.2.2.2.1 rfl ?_
        cases h
        exact rn_zret zd_X11_hide_0.2.2.2.2 rfl rfl
def n_X11_grab (R : zR) (M : zM) (L : zL) (a0 : Nat) (x1 : Int32) : Option (Int32 × zM × zL) :=
  zbd (f_X6_has M (R a0 2) x1) fun r1 =>
  if r1 = 0 then (
    some ((-1 : Int32), M, L)
  ) else (
    zbd2 (n_X2_note R M L (R a0 3) (R a0 2)) fun M4 L5 =>
    zck (zin x1 10) <|
    zck (zin x1 10) <|
    zlt (zup M4 (R (R a0 2) 0) (ztn x1) ((M4 (R (R a0 2) 0) (ztn x1)) + (M4 (R a0 2) 5))) fun M9 =>
    zlt (zup M9 (R a0 2) 5 (0 : Int32)) fun M10 =>
    some ((M4 (R a0 2) 5), M10, L5)
  )
set_option maxRecDepth 4000 in
theorem ok_X11_grab {G : zG} {K : zK} {R : zR} {M : zM} {L : zL} (hW : zWT R K) {a0 : Nat} {x1 : Int32} (k_a0 : K[a0]? = some (11, 11)) {r' : Int32} {M' : zM} {L' : zL} (h : n_X11_grab R M L a0 x1 = some (r', M', L')) : Rm G mt_X11_grab [.ref a0, .int x1] (M, L, R, K) (some (.int r')) (M', L', R, K) := by
  refine rm_rn rfl rfl (Nat.le_of_ble_eq_true rfl) ?_
  show Rn G mt_X11_grab 0 [(0, .ref a0), (1, .int x1)] [] (M, L, R, K) (some (.int r')) (M', L', R, K)
  unfold n_X11_grab at h
  refine rn_aload_n (q := 0) 0 rfl zd_X11_grab_0.1.1.1.1 ?_
  refine rn_getR zf_X11_26 (Or.inl ⟨_, rfl⟩) k_a0 (zx_11_2 hW k_a0) zd_X11_grab_0.1.1.1.2 ?_
  refine rn_iload_n (q := 1) 1 rfl zd_X11_grab_0.1.1.2.1 ?_
  obtain ⟨r1, h2, h⟩ := zbd_e h
  refine rn_callVi (As := [.int x1]) (rest := []) zl_X11_104 zm_X6_has ⟨by decide, by decide⟩ (ci := 6) rfl rfl (by decide) (zw_11_2 hW k_a0) rfl rfl (Nat.le_of_ble_eq_true rfl) zd_X11_grab_0.1.1.2.2 (ok_X6_has hW (zw_11_2 hW k_a0) h2) ?_
  rcases zif_e h with ⟨hc3, h⟩ | ⟨hc3, h⟩
  · refine rn_if_ne_f (tgt := 13) hc3 zd_X11_grab_0.1.2.1.1 rfl ?_
    refine rn_iconst (v := -1) zd_X11_grab_0.1.2.1.2 rfl ?_
    cases h
    exact rn_iret zd_X11_grab_0.1.2.2.1 rfl
  · refine rn_if_ne_t (tgt := 13) hc3 zd_X11_grab_0.1.2.1.1 rfl ?_
    refine rn_aload_n (q := 0) 0 rfl zd_X11_grab_0.1.2.2.2 ?_
    refine rn_getR zf_X11_33 (Or.inl ⟨_, rfl⟩) k_a0 (zx_11_3 hW k_a0) zd_X11_grab_0.2.1.1.1 ?_
    refine rn_aload_n (q := 0) 0 rfl zd_X11_grab_0.2.1.1.2 ?_
    refine rn_getR zf_X11_26 (Or.inl ⟨_, rfl⟩) k_a0 (zx_11_2 hW k_a0) zd_X11_grab_0.2.1.2.1 ?_
    obtain ⟨M4, L5, h6, h⟩ := zbd2_e h
    refine rn_callVv (As := [.ref (R a0 2)]) (rest := []) zl_X11_136 zm_X2_note ⟨by decide, by decide⟩ (ci := 2) rfl rfl (by decide) (zw_11_3 hW k_a0) rfl rfl (Nat.le_of_ble_eq_true rfl) zd_X11_grab_0.2.1.2.2 (ok_X2_note hW (zw_11_3 hW k_a0) (zw_11_2 hW k_a0) h6) ?_
    refine rn_aload_n (q := 0) 0 rfl zd_X11_grab_0.2.2.1.1 ?_
    refine rn_getR zf_X11_26 (Or.inl ⟨_, rfl⟩) k_a0 (zx_11_2 hW k_a0) zd_X11_grab_0.2.2.1.2 ?_
    refine rn_getI zf_X11_154 (Or.inl rfl) (zw_11_2 hW k_a0) zd_X11_grab_0.2.2.2.1 ?_
    refine rn_istore_n (q := 2) (ls' := [(2, .int (M4 (R a0 2) 5)), (0, .ref a0), (1, .int x1)]) (by decide) rfl zd_X11_grab_0.2.2.2.2 ?_
    refine rn_aload_n (q := 0) 1 rfl zd_X11_grab_1.1.1.1 ?_
    refine rn_getR zf_X11_26 (Or.inl ⟨_, rfl⟩) k_a0 (zx_11_2 hW k_a0) zd_X11_grab_1.1.1.2.1 ?_
    refine rn_getR zf_X11_108 (Or.inr ⟨_, rfl⟩) (zw_11_2 hW k_a0) (zx_6_0 hW (zw_11_2 hW k_a0)) zd_X11_grab_1.1.1.2.2 ?_
    refine rn_iload_n (q := 1) 2 rfl zd_X11_grab_1.1.2.1.1 ?_
    refine rn_dup2 zd_X11_grab_1.1.2.1.2 rfl rfl ?_
    obtain ⟨hc7, h⟩ := zck_e h
    refine rn_iald (zw_6_0 hW (zw_11_2 hW k_a0)) hc7 zd_X11_grab_1.1.2.2.1 ?_
    refine rn_iload_n (q := 2) 0 rfl zd_X11_grab_1.1.2.2.2 ?_
    refine rn_iadd zd_X11_grab_1.2.1.1.1 ?_
    obtain ⟨hc8, h⟩ := zck_e h
    obtain ⟨M9, hM9, h⟩ := zlt_e h
    refine rn_iast hM9 (zw_6_0 hW (zw_11_2 hW k_a0)) hc8 zd_X11_grab_1.2.1.1.2 ?_
    refine rn_aload_n (q := 0) 1 rfl zd_X11_grab_1.2.1.2.1 ?_
    refine rn_getR zf_X11_26 (Or.inl ⟨_, rfl⟩) k_a0 (zx_11_2 hW k_a0) zd_X11_grab_1.2.1.2.2 ?_
    refine rn_iconst (v := 0) zd_X11_grab_1.2.2.1.1 rfl ?_
    obtain ⟨M10, hM10, h⟩ := zlt_e h
    refine rn_putI hM10 zf_X11_154 (zw_11_2 hW k_a0) zd_X11_grab_1.2.2.1.2 ?_
    refine rn_iload_n (q := 2) 0 rfl zd_X11_grab_1.2.2.2.1 ?_
    cases h
    exact rn_iret zd_X11_grab_1.2.2.2.2 rfl
def f_X11_isPurse (x0 : Int32) : Option (Int32) :=
  if x0 < 0 then (
    some (0 : Int32)
  ) else (
    if (9999 : Int32) < x0 then (
      some (0 : Int32)
    ) else (
      some (1 : Int32)
    )
  )
set_option maxRecDepth 4000 in
theorem ok_X11_isPurse {G : zG} {K : zK} {R : zR} {M : zM} {L : zL} (hW : zWT R K) {x0 : Int32} {r' : Int32} (h : f_X11_isPurse x0 = some r') : Rm G mt_X11_isPurse [.int x0] (M, L, R, K) (some (.int r')) (M, L, R, K) := by
  refine rm_rn rfl rfl (Nat.le_of_ble_eq_true rfl) ?_
  show Rn G mt_X11_isPurse 0 [(0, .int x0)] [] (M, L, R, K) (some (.int r')) (M, L, R, K)
  unfold f_X11_isPurse at h
  refine rn_iload_n (q := 0) 0 rfl zd_X11_isPurse_0.1.1.1 ?_
  rcases zif_e h with ⟨hc1, h⟩ | ⟨hc1, h⟩
  · refine rn_if_lt_t (tgt := 15) hc1 zd_X11_isPurse_0.1.1.2 rfl ?_
    refine rn_iconst (v := 0) zd_X11_isPurse_0.2.2.2.1 rfl ?_
    cases h
    exact rn_zret zd_X11_isPurse_0.2.2.2.2 rfl rfl
  · refine rn_if_lt_f (tgt := 15) hc1 zd_X11_isPurse_0.1.1.2 rfl ?_
    refine rn_iload_n (q := 0) 0 rfl zd_X11_isPurse_0.1.2.1 ?_
    refine rn_sipush (v := 9999) zd_X11_isPurse_0.1.2.2 rfl ?_
    rcases zif_e h with ⟨hc2, h⟩ | ⟨hc2, h⟩
    · refine rn_icmp_gt_t (tgt := 15) hc2 zd_X11_isPurse_0.2.1.1 rfl ?_
      refine rn_iconst (v := 0) zd_X11_isPurse_0.2.2.2.1 rfl ?_
      cases h
      exact rn_zret zd_X11_isPurse_0.2.2.2.2 rfl rfl
    · refine rn_icmp_gt_f (tgt := 15) hc2 zd_X11_isPurse_0.2.1.1 rfl ?_
      refine rn_iconst (v := 1) zd_X11_isPurse_0.2.1.2 rfl ?_
      refine rn_goto (tgt := 16) zd_X11_isPurse_0.2.2.1 rfl ?_
      cases h
      exact rn_zret zd_X11_isPurse_0.2.2.2.2 rfl rfl
def n_X11_build (R : zR) (M : zM) (L : zL) (a0 : Nat) (x1 : Int32) (x2 : Int32) : Option (Int32 × zM × zL) :=
  if x1 < 0 then (
    some ((-1 : Int32), M, L)
  ) else (
    if (M (R a0 2) 4) < x1 then (
      some ((-1 : Int32), M, L)
    ) else (
      zbd (f_X6_isFull M (R a0 2)) fun r3 =>
      if r3 = 0 then (
        zbd (f_X11_isPurse x2) fun r6 =>
        if r6 = 0 then (
          some ((-1 : Int32), M, L)
        ) else (
          zbd2 (n_X2_note R M L (R a0 3) (R a0 2)) fun M9 L10 =>
          zbd2 (n_X6_insert R M9 L10 (R a0 2) x1 x2) fun M12 L13 =>
          some ((M12 (R a0 2) 4), M12, L13)
        )
      ) else (
        some ((-1 : Int32), M, L)
      )
    )
  )
set_option maxRecDepth 4000 in
theorem ok_X11_build {G : zG} {K : zK} {R : zR} {M : zM} {L : zL} (hW : zWT R K) {a0 : Nat} {x1 : Int32} {x2 : Int32} (k_a0 : K[a0]? = some (11, 11)) {r' : Int32} {M' : zM} {L' : zL} (h : n_X11_build R M L a0 x1 x2 = some (r', M', L')) : Rm G mt_X11_build [.ref a0, .int x1, .int x2] (M, L, R, K) (some (.int r')) (M', L', R, K) := by
  refine rm_rn rfl rfl (Nat.le_of_ble_eq_true rfl) ?_
  show Rn G mt_X11_build 0 [(0, .ref a0), (1, .int x1), (2, .int x2)] [] (M, L, R, K) (some (.int r')) (M', L', R, K)
  unfold n_X11_build at h
  refine rn_iload_n (q := 1) 1 rfl zd_X11_build_0.1.1.1.1 ?_
  rcases zif_e h with ⟨hc1, h⟩ | ⟨hc1, h⟩
  · refine rn_if_lt_t (tgt := 32) hc1 zd_X11_build_0.1.1.1.2 rfl ?_
    refine rn_iconst (v := -1) zd_X11_build_0.2.2.2.1 rfl ?_
    cases h
    exact rn_iret zd_X11_build_0.2.2.2.2 rfl
  · refine rn_if_lt_f (tgt := 32) hc1 zd_X11_build_0.1.1.1.2 rfl ?_
    refine rn_iload_n (q := 1) 1 rfl zd_X11_build_0.1.1.2.1 ?_
    refine rn_aload_n (q := 0) 0 rfl zd_X11_build_0.1.1.2.2 ?_
    refine rn_getR zf_X11_26 (Or.inl ⟨_, rfl⟩) k_a0 (zx_11_2 hW k_a0) zd_X11_build_0.1.2.1.1 ?_
    refine rn_getI zf_X11_157 (Or.inl rfl) (zw_11_2 hW k_a0) zd_X11_build_0.1.2.1.2 ?_
    rcases zif_e h with ⟨hc2, h⟩ | ⟨hc2, h⟩
    · refine rn_icmp_gt_t (tgt := 32) hc2 zd_X11_build_0.1.2.2.1 rfl ?_
      refine rn_iconst (v := -1) zd_X11_build_0.2.2.2.1 rfl ?_
      cases h
      exact rn_iret zd_X11_build_0.2.2.2.2 rfl
    · refine rn_icmp_gt_f (tgt := 32) hc2 zd_X11_build_0.1.2.2.1 rfl ?_
      refine rn_aload_n (q := 0) 0 rfl zd_X11_build_0.1.2.2.2 ?_
      refine rn_getR zf_X11_26 (Or.inl ⟨_, rfl⟩) k_a0 (zx_11_2 hW k_a0) zd_X11_build_0.2.1.1.1 ?_
      obtain ⟨r3, h4, h⟩ := zbd_e h
      refine rn_callVi (As := []) (rest := []) zl_X11_160 zm_X6_isFull ⟨by decide, by decide⟩ (ci := 6) rfl rfl (by decide) (zw_11_2 hW k_a0) rfl rfl (Nat.le_of_ble_eq_true rfl) zd_X11_build_0.2.1.1.2 (ok_X6_isFull hW (zw_11_2 hW k_a0) h4) ?_
      rcases zif_e h with ⟨hc5, h⟩ | ⟨hc5, h⟩
      · refine rn_if_ne_f (tgt := 32) hc5 zd_X11_build_0.2.1.2.1 rfl ?_
        refine rn_iload_n (q := 2) 2 rfl zd_X11_build_0.2.1.2.2 ?_
        obtain ⟨r6, h7, h⟩ := zbd_e h
        refine rn_callSi (As := [.int x2]) (rest := []) zl_X11_164 zm_X11_isPurse ⟨by decide, by decide⟩ rfl rfl (Nat.le_of_ble_eq_true rfl) zd_X11_build_0.2.2.1.1 (ok_X11_isPurse hW h7) ?_
        rcases zif_e h with ⟨hc8, h⟩ | ⟨hc8, h⟩
        · refine rn_if_ne_f (tgt := 34) hc8 zd_X11_build_0.2.2.1.2 rfl ?_
          refine rn_iconst (v := -1) zd_X11_build_0.2.2.2.1 rfl ?_
          cases h
          exact rn_iret zd_X11_build_0.2.2.2.2 rfl
        · refine rn_if_ne_t (tgt := 34) hc8 zd_X11_build_0.2.2.1.2 rfl ?_
          refine rn_aload_n (q := 0) 0 rfl zd_X11_build_1.1.1.1 ?_
          refine rn_getR zf_X11_33 (Or.inl ⟨_, rfl⟩) k_a0 (zx_11_3 hW k_a0) zd_X11_build_1.1.1.2.1 ?_
          refine rn_aload_n (q := 0) 0 rfl zd_X11_build_1.1.1.2.2 ?_
          refine rn_getR zf_X11_26 (Or.inl ⟨_, rfl⟩) k_a0 (zx_11_2 hW k_a0) zd_X11_build_1.1.2.1.1 ?_
          obtain ⟨M9, L10, h11, h⟩ := zbd2_e h
          refine rn_callVv (As := [.ref (R a0 2)]) (rest := []) zl_X11_136 zm_X2_note ⟨by decide, by decide⟩ (ci := 2) rfl rfl (by decide) (zw_11_3 hW k_a0) rfl rfl (Nat.le_of_ble_eq_true rfl) zd_X11_build_1.1.2.1.2 (ok_X2_note hW (zw_11_3 hW k_a0) (zw_11_2 hW k_a0) h11) ?_
          refine rn_aload_n (q := 0) 0 rfl zd_X11_build_1.1.2.2.1 ?_
          refine rn_getR zf_X11_26 (Or.inl ⟨_, rfl⟩) k_a0 (zx_11_2 hW k_a0) zd_X11_build_1.1.2.2.2 ?_
          refine rn_iload_n (q := 1) 1 rfl zd_X11_build_1.2.1.1 ?_
          refine rn_iload_n (q := 2) 2 rfl zd_X11_build_1.2.1.2.1 ?_
          obtain ⟨M12, L13, h14, h⟩ := zbd2_e h
          refine rn_callVv (As := [.int x1, .int x2]) (rest := []) zl_X11_167 zm_X6_insert ⟨by decide, by decide⟩ (ci := 6) rfl rfl (by decide) (zw_11_2 hW k_a0) rfl rfl (Nat.le_of_ble_eq_true rfl) zd_X11_build_1.2.1.2.2 (ok_X6_insert hW (zw_11_2 hW k_a0) h14) ?_
          refine rn_aload_n (q := 0) 0 rfl zd_X11_build_1.2.2.1.1 ?_
          refine rn_getR zf_X11_26 (Or.inl ⟨_, rfl⟩) k_a0 (zx_11_2 hW k_a0) zd_X11_build_1.2.2.1.2 ?_
          refine rn_getI zf_X11_157 (Or.inl rfl) (zw_11_2 hW k_a0) zd_X11_build_1.2.2.2.1 ?_
          cases h
          exact rn_iret zd_X11_build_1.2.2.2.2 rfl
      · refine rn_if_ne_t (tgt := 32) hc5 zd_X11_build_0.2.1.2.1 rfl ?_
        refine rn_iconst (v := -1) zd_X11_build_0.2.2.2.1 rfl ?_
        cases h
        exact rn_iret zd_X11_build_0.2.2.2.2 rfl
def n_X11_burn (R : zR) (M : zM) (L : zL) (a0 : Nat) (x1 : Int32) : Option (Int32 × zM × zL) :=
  zbd (f_X6_has M (R a0 2) x1) fun r1 =>
  if r1 = 0 then (
    some ((-1 : Int32), M, L)
  ) else (
    zbd2 (n_X2_note R M L (R a0 3) (R a0 2)) fun M4 L5 =>
    zck (zin x1 10) <|
    zbd2 (n_X6_remove R M4 L5 (R a0 2) x1) fun M8 L9 =>
    some ((M4 (R (R a0 2) 0) (ztn x1)), M8, L9)
  )
set_option maxRecDepth 4000 in
theorem ok_X11_burn {G : zG} {K : zK} {R : zR} {M : zM} {L : zL} (hW : zWT R K) {a0 : Nat} {x1 : Int32} (k_a0 : K[a0]? = some (11, 11)) {r' : Int32} {M' : zM} {L' : zL} (h : n_X11_burn R M L a0 x1 = some (r', M', L')) : Rm G mt_X11_burn [.ref a0, .int x1] (M, L, R, K) (some (.int r')) (M', L', R, K) := by
  refine rm_rn rfl rfl (Nat.le_of_ble_eq_true rfl) ?_
  show Rn G mt_X11_burn 0 [(0, .ref a0), (1, .int x1)] [] (M, L, R, K) (some (.int r')) (M', L', R, K)
  unfold n_X11_burn at h
  refine rn_aload_n (q := 0) 0 rfl zd_X11_burn_0.1.1.1.1 ?_
  refine rn_getR zf_X11_26 (Or.inl ⟨_, rfl⟩) k_a0 (zx_11_2 hW k_a0) zd_X11_burn_0.1.1.1.2 ?_
  refine rn_iload_n (q := 1) 1 rfl zd_X11_burn_0.1.1.2.1 ?_
  obtain ⟨r1, h2, h⟩ := zbd_e h
  refine rn_callVi (As := [.int x1]) (rest := []) zl_X11_104 zm_X6_has ⟨by decide, by decide⟩ (ci := 6) rfl rfl (by decide) (zw_11_2 hW k_a0) rfl rfl (Nat.le_of_ble_eq_true rfl) zd_X11_burn_0.1.1.2.2 (ok_X6_has hW (zw_11_2 hW k_a0) h2) ?_
  rcases zif_e h with ⟨hc3, h⟩ | ⟨hc3, h⟩
  · refine rn_if_ne_f (tgt := 13) hc3 zd_X11_burn_0.1.2.1.1 rfl ?_
    refine rn_iconst (v := -1) zd_X11_burn_0.1.2.1.2 rfl ?_
    cases h
    exact rn_iret zd_X11_burn_0.1.2.2.1 rfl
  · refine rn_if_ne_t (tgt := 13) hc3 zd_X11_burn_0.1.2.1.1 rfl ?_
    refine rn_aload_n (q := 0) 0 rfl zd_X11_burn_0.1.2.2.2 ?_
    refine rn_getR zf_X11_33 (Or.inl ⟨_, rfl⟩) k_a0 (zx_11_3 hW k_a0) zd_X11_burn_0.2.1.1.1 ?_
    refine rn_aload_n (q := 0) 0 rfl zd_X11_burn_0.2.1.1.2 ?_
    refine rn_getR zf_X11_26 (Or.inl ⟨_, rfl⟩) k_a0 (zx_11_2 hW k_a0) zd_X11_burn_0.2.1.2.1 ?_
    obtain ⟨M4, L5, h6, h⟩ := zbd2_e h
    refine rn_callVv (As := [.ref (R a0 2)]) (rest := []) zl_X11_136 zm_X2_note ⟨by decide, by decide⟩ (ci := 2) rfl rfl (by decide) (zw_11_3 hW k_a0) rfl rfl (Nat.le_of_ble_eq_true rfl) zd_X11_burn_0.2.1.2.2 (ok_X2_note hW (zw_11_3 hW k_a0) (zw_11_2 hW k_a0) h6) ?_
    refine rn_aload_n (q := 0) 0 rfl zd_X11_burn_0.2.2.1.1 ?_
    refine rn_getR zf_X11_26 (Or.inl ⟨_, rfl⟩) k_a0 (zx_11_2 hW k_a0) zd_X11_burn_0.2.2.1.2 ?_
    refine rn_getR zf_X11_108 (Or.inr ⟨_, rfl⟩) (zw_11_2 hW k_a0) (zx_6_0 hW (zw_11_2 hW k_a0)) zd_X11_burn_0.2.2.2.1 ?_
    refine rn_iload_n (q := 1) 1 rfl zd_X11_burn_0.2.2.2.2 ?_
    obtain ⟨hc7, h⟩ := zck_e h
    refine rn_iald (zw_6_0 hW (zw_11_2 hW k_a0)) hc7 zd_X11_burn_1.1.1.1 ?_
    refine rn_istore_n (q := 2) (ls' := [(2, .int (M4 (R (R a0 2) 0) (ztn x1))), (0, .ref a0), (1, .int x1)]) (by decide) rfl zd_X11_burn_1.1.1.2 ?_
    refine rn_aload_n (q := 0) 1 rfl zd_X11_burn_1.1.2.1 ?_
    refine rn_getR zf_X11_26 (Or.inl ⟨_, rfl⟩) k_a0 (zx_11_2 hW k_a0) zd_X11_burn_1.1.2.2 ?_
    refine rn_iload_n (q := 1) 2 rfl zd_X11_burn_1.2.1.1 ?_
    obtain ⟨M8, L9, h10, h⟩ := zbd2_e h
    refine rn_callVv (As := [.int x1]) (rest := []) zl_X11_171 zm_X6_remove ⟨by decide, by decide⟩ (ci := 6) rfl rfl (by decide) (zw_11_2 hW k_a0) rfl rfl (Nat.le_of_ble_eq_true rfl) zd_X11_burn_1.2.1.2 (ok_X6_remove hW (zw_11_2 hW k_a0) h10) ?_
    refine rn_iload_n (q := 2) 0 rfl zd_X11_burn_1.2.2.1 ?_
    cases h
    exact rn_iret zd_X11_burn_1.2.2.2 rfl
def nj_X11_join_96 (R : zR) (M : zM) (L : zL) (a0 : Nat) (x3 : Int32) (b0 : Nat) (s1 : Int32) (s2 : Int32) : Option (Int32 × zM × zL) :=
  zbd2 (n_X6_merge R M L b0 s1 s2) fun M12 L13 =>
  zbd (f_X6_purseOf R M12 (R a0 2) x3) fun r15 =>
  some (r15, M12, L13)
set_option maxRecDepth 4000 in
theorem ok_j_X11_join_96 {G : zG} {K : zK} {R : zR} {M : zM} {L : zL} (hW : zWT R K) {a0 : Nat} {x3 : Int32} {b0 : Nat} {s1 : Int32} {s2 : Int32} (k_a0 : K[a0]? = some (11, 11)) (k_b0 : K[b0]? = some (6, 8)) {r' : Int32} {M' : zM} {L' : zL} (h : nj_X11_join_96 R M L a0 x3 b0 s1 s2 = some (r', M', L')) : Rn G mt_X11_join 96 [(0, .ref a0), (3, .int x3)] [.int s2, .int s1, .ref b0] (M, L, R, K) (some (.int r')) (M', L', R, K) := by
  unfold nj_X11_join_96 at h
  obtain ⟨M12, L13, h14, h⟩ := zbd2_e h
  refine rn_callVv (As := [.int s1, .int s2]) (rest := []) zl_X11_178 zm_X6_merge ⟨by decide, by decide⟩ (ci := 6) rfl rfl (by decide) k_b0 rfl rfl (Nat.le_of_ble_eq_true rfl) zd_X11_join_3.1.2.2.2 (ok_X6_merge hW k_b0 h14) ?_
  refine rn_aload_n (q := 0) 0 rfl zd_X11_join_3.2.1.1 ?_
  refine rn_getR zf_X11_26 (Or.inl ⟨_, rfl⟩) k_a0 (zx_11_2 hW k_a0) zd_X11_join_3.2.1.2 ?_
  refine rn_iload_n (q := 3) 1 rfl zd_X11_join_3.2.2.1 ?_
  obtain ⟨r15, h16, h⟩ := zbd_e h
  refine rn_callVi (As := [.int x3]) (rest := []) zl_X11_181 zm_X6_purseOf ⟨by decide, by decide⟩ (ci := 6) rfl rfl (by decide) (zw_11_2 hW k_a0) rfl rfl (Nat.le_of_ble_eq_true rfl) zd_X11_join_3.2.2.2.1 (ok_X6_purseOf hW (zw_11_2 hW k_a0) h16) ?_
  cases h
  exact rn_iret zd_X11_join_3.2.2.2.2 rfl
def nj_X11_join_79 (R : zR) (M : zM) (L : zL) (a0 : Nat) (x1 : Int32) (x2 : Int32) (s0 : Int32) : Option (Int32 × zM × zL) :=
  if x2 = 0 then (
    nj_X11_join_96 R M L a0 s0 (R a0 2) s0 (x1 + (1 : Int32))
  ) else (
    nj_X11_join_96 R M L a0 s0 (R a0 2) s0 x1
  )
set_option maxRecDepth 4000 in
theorem ok_j_X11_join_79 {G : zG} {K : zK} {R : zR} {M : zM} {L : zL} (hW : zWT R K) {a0 : Nat} {x1 : Int32} {x2 : Int32} {s0 : Int32} (k_a0 : K[a0]? = some (11, 11)) {r' : Int32} {M' : zM} {L' : zL} (h : nj_X11_join_79 R M L a0 x1 x2 s0 = some (r', M', L')) : Rn G mt_X11_join 79 [(0, .ref a0), (1, .int x1), (2, .int x2)] [.int s0] (M, L, R, K) (some (.int r')) (M', L', R, K) := by
  unfold nj_X11_join_79 at h
  refine rn_istore_n (q := 3) (ls' := [(3, .int s0), (0, .ref a0), (1, .int x1), (2, .int x2)]) (by decide) rfl zd_X11_join_2.2.1.1.2 ?_
  refine rn_aload_n (q := 0) 1 rfl zd_X11_join_2.2.1.2.1 ?_
  refine rn_getR zf_X11_26 (Or.inl ⟨_, rfl⟩) k_a0 (zx_11_2 hW k_a0) zd_X11_join_2.2.1.2.2 ?_
  refine rn_iload_n (q := 3) 0 rfl zd_X11_join_2.2.2.1.1 ?_
  refine rn_iload_n (q := 2) 3 rfl zd_X11_join_2.2.2.1.2 ?_
  rcases zif_e h with ⟨hc11, h⟩ | ⟨hc11, h⟩
  · refine rn_if_eq_t (tgt := 93) hc11 zd_X11_join_2.2.2.2.1 rfl ?_
    refine rn_iload_n (q := 1) 2 rfl zd_X11_join_3.1.1.2 ?_
    refine rn_iconst (v := 1) zd_X11_join_3.1.2.1 rfl ?_
    refine rn_iadd zd_X11_join_3.1.2.2.1 ?_
    exact rn_sub (ls' := [(0, .ref a0), (3, .int s0)]) [1, 0] rfl (ok_j_X11_join_96 hW k_a0 (zw_11_2 hW k_a0) h)
  · refine rn_if_eq_f (tgt := 93) hc11 zd_X11_join_2.2.2.2.1 rfl ?_
    refine rn_iload_n (q := 1) 2 rfl zd_X11_join_2.2.2.2.2 ?_
    refine rn_goto (tgt := 96) zd_X11_join_3.1.1.1 rfl ?_
    exact rn_sub (ls' := [(0, .ref a0), (3, .int s0)]) [1, 0] rfl (ok_j_X11_join_96 hW k_a0 (zw_11_2 hW k_a0) h)
def nj_X11_join_59 (R : zR) (M : zM) (L : zL) (a0 : Nat) (x1 : Int32) (x2 : Int32) : Option (Int32 × zM × zL) :=
  zbd2 (n_X2_note R M L (R a0 3) (R a0 2)) fun M7 L8 =>
  if x2 = 0 then (
    nj_X11_join_79 R M7 L8 a0 x1 x2 x1
  ) else (
    nj_X11_join_79 R M7 L8 a0 x1 x2 (0 : Int32)
  )
set_option maxRecDepth 4000 in
theorem ok_j_X11_join_59 {G : zG} {K : zK} {R : zR} {M : zM} {L : zL} (hW : zWT R K) {a0 : Nat} {x1 : Int32} {x2 : Int32} (k_a0 : K[a0]? = some (11, 11)) {r' : Int32} {M' : zM} {L' : zL} (h : nj_X11_join_59 R M L a0 x1 x2 = some (r', M', L')) : Rn G mt_X11_join 59 [(0, .ref a0), (1, .int x1), (2, .int x2)] [] (M, L, R, K) (some (.int r')) (M', L', R, K) := by
  unfold nj_X11_join_59 at h
  refine rn_aload_n (q := 0) 0 rfl zd_X11_join_1.2.2.2.2 ?_
  refine rn_getR zf_X11_33 (Or.inl ⟨_, rfl⟩) k_a0 (zx_11_3 hW k_a0) zd_X11_join_2.1.1.1.1 ?_
  refine rn_aload_n (q := 0) 0 rfl zd_X11_join_2.1.1.1.2 ?_
  refine rn_getR zf_X11_26 (Or.inl ⟨_, rfl⟩) k_a0 (zx_11_2 hW k_a0) zd_X11_join_2.1.1.2.1 ?_
  obtain ⟨M7, L8, h9, h⟩ := zbd2_e h
  refine rn_callVv (As := [.ref (R a0 2)]) (rest := []) zl_X11_136 zm_X2_note ⟨by decide, by decide⟩ (ci := 2) rfl rfl (by decide) (zw_11_3 hW k_a0) rfl rfl (Nat.le_of_ble_eq_true rfl) zd_X11_join_2.1.1.2.2 (ok_X2_note hW (zw_11_3 hW k_a0) (zw_11_2 hW k_a0) h9) ?_
  refine rn_iload_n (q := 2) 2 rfl zd_X11_join_2.1.2.1.1 ?_
  rcases zif_e h with ⟨hc10, h⟩ | ⟨hc10, h⟩
  · refine rn_if_eq_t (tgt := 78) hc10 zd_X11_join_2.1.2.1.2 rfl ?_
    refine rn_iload_n (q := 1) 1 rfl zd_X11_join_2.2.1.1.1 ?_
    exact rn_sub (ls' := [(0, .ref a0), (1, .int x1), (2, .int x2)]) [0, 1, 2] rfl (ok_j_X11_join_79 hW k_a0 h)
  · refine rn_if_eq_f (tgt := 78) hc10 zd_X11_join_2.1.2.1.2 rfl ?_
    refine rn_iconst (v := 0) zd_X11_join_2.1.2.2.1 rfl ?_
    refine rn_goto (tgt := 79) zd_X11_join_2.1.2.2.2 rfl ?_
    exact rn_sub (ls' := [(0, .ref a0), (1, .int x1), (2, .int x2)]) [0, 1, 2] rfl (ok_j_X11_join_79 hW k_a0 h)
def nj_X11_join_42 (R : zR) (M : zM) (L : zL) (a0 : Nat) (x1 : Int32) (s0 : Int32) : Option (Int32 × zM × zL) :=
  if s0 = 0 then (
    nj_X11_join_59 R M L a0 x1 s0
  ) else (
    if (M (R a0 8) 6) = 0 then (
      nj_X11_join_59 R M L a0 x1 s0
    ) else (
      some ((-1 : Int32), M, L)
    )
  )
set_option maxRecDepth 4000 in
theorem ok_j_X11_join_42 {G : zG} {K : zK} {R : zR} {M : zM} {L : zL} (hW : zWT R K) {a0 : Nat} {x1 : Int32} {s0 : Int32} (k_a0 : K[a0]? = some (11, 11)) {r' : Int32} {M' : zM} {L' : zL} (h : nj_X11_join_42 R M L a0 x1 s0 = some (r', M', L')) : Rn G mt_X11_join 42 [(0, .ref a0), (1, .int x1)] [.int s0] (M, L, R, K) (some (.int r')) (M', L', R, K) := by
  unfold nj_X11_join_42 at h
  refine rn_istore_n (q := 2) (ls' := [(2, .int s0), (0, .ref a0), (1, .int x1)]) (by decide) rfl zd_X11_join_1.1.2.2.1 ?_
  refine rn_iload_n (q := 2) 0 rfl zd_X11_join_1.1.2.2.2 ?_
  rcases zif_e h with ⟨hc6, h⟩ | ⟨hc6, h⟩
  · refine rn_if_eq_t (tgt := 59) hc6 zd_X11_join_1.2.1.1.1 rfl ?_
    exact rn_sub (ls' := [(0, .ref a0), (1, .int x1), (2, .int s0)]) [1, 2, 0] rfl (ok_j_X11_join_59 hW k_a0 h)
  · refine rn_if_eq_f (tgt := 59) hc6 zd_X11_join_1.2.1.1.1 rfl ?_
    refine rn_aload_n (q := 0) 1 rfl zd_X11_join_1.2.1.1.2 ?_
    refine rn_getR zf_X11_68 (Or.inl ⟨_, rfl⟩) k_a0 (zx_11_8 hW k_a0) zd_X11_join_1.2.1.2.1 ?_
    refine rn_getI zf_X11_174 (Or.inr rfl) (zw_11_8 hW k_a0) zd_X11_join_1.2.1.2.2 ?_
    rcases zif_e h with ⟨hc17, h⟩ | ⟨hc17, h⟩
    · refine rn_if_eq_t (tgt := 59) hc17 zd_X11_join_1.2.2.1.1 rfl ?_
      exact rn_sub (ls' := [(0, .ref a0), (1, .int x1), (2, .int s0)]) [1, 2, 0] rfl (ok_j_X11_join_59 hW k_a0 h)
    · refine rn_if_eq_f (tgt := 59) hc17 zd_X11_join_1.2.2.1.1 rfl ?_
      refine rn_iconst (v := -1) zd_X11_join_1.2.2.1.2 rfl ?_
      cases h
      exact rn_iret zd_X11_join_1.2.2.2.1 rfl
def n_X11_join (R : zR) (M : zM) (L : zL) (a0 : Nat) (x1 : Int32) : Option (Int32 × zM × zL) :=
  zbd (f_X6_has M (R a0 2) x1) fun r1 =>
  if r1 = 0 then (
    some ((-1 : Int32), M, L)
  ) else (
    if (2 : Int32) ≤ (M (R a0 2) 4) then (
      if x1 = ((M (R a0 2) 4) - (1 : Int32)) then (
        nj_X11_join_42 R M L a0 x1 (1 : Int32)
      ) else (
        nj_X11_join_42 R M L a0 x1 (0 : Int32)
      )
    ) else (
      some ((-1 : Int32), M, L)
    )
  )
set_option maxRecDepth 4000 in
theorem ok_X11_join {G : zG} {K : zK} {R : zR} {M : zM} {L : zL} (hW : zWT R K) {a0 : Nat} {x1 : Int32} (k_a0 : K[a0]? = some (11, 11)) {r' : Int32} {M' : zM} {L' : zL} (h : n_X11_join R M L a0 x1 = some (r', M', L')) : Rm G mt_X11_join [.ref a0, .int x1] (M, L, R, K) (some (.int r')) (M', L', R, K) := by
  refine rm_rn rfl rfl (Nat.le_of_ble_eq_true rfl) ?_
  show Rn G mt_X11_join 0 [(0, .ref a0), (1, .int x1)] [] (M, L, R, K) (some (.int r')) (M', L', R, K)
  unfold n_X11_join at h
  refine rn_aload_n (q := 0) 0 rfl zd_X11_join_0.1.1.1.1 ?_
  refine rn_getR zf_X11_26 (Or.inl ⟨_, rfl⟩) k_a0 (zx_11_2 hW k_a0) zd_X11_join_0.1.1.1.2 ?_
  refine rn_iload_n (q := 1) 1 rfl zd_X11_join_0.1.1.2.1 ?_
  obtain ⟨r1, h2, h⟩ := zbd_e h
  refine rn_callVi (As := [.int x1]) (rest := []) zl_X11_104 zm_X6_has ⟨by decide, by decide⟩ (ci := 6) rfl rfl (by decide) (zw_11_2 hW k_a0) rfl rfl (Nat.le_of_ble_eq_true rfl) zd_X11_join_0.1.1.2.2 (ok_X6_has hW (zw_11_2 hW k_a0) h2) ?_
  rcases zif_e h with ⟨hc3, h⟩ | ⟨hc3, h⟩
  · refine rn_if_eq_t (tgt := 22) hc3 zd_X11_join_0.1.2.1.1 rfl ?_
    refine rn_iconst (v := -1) zd_X11_join_0.2.1.2.1 rfl ?_
    cases h
    exact rn_iret zd_X11_join_0.2.1.2.2 rfl
  · refine rn_if_eq_f (tgt := 22) hc3 zd_X11_join_0.1.2.1.1 rfl ?_
    refine rn_aload_n (q := 0) 0 rfl zd_X11_join_0.1.2.1.2 ?_
    refine rn_getR zf_X11_26 (Or.inl ⟨_, rfl⟩) k_a0 (zx_11_2 hW k_a0) zd_X11_join_0.1.2.2.1 ?_
    refine rn_getI zf_X11_157 (Or.inl rfl) (zw_11_2 hW k_a0) zd_X11_join_0.1.2.2.2 ?_
    refine rn_iconst (v := 2) zd_X11_join_0.2.1.1.1 rfl ?_
    rcases zif_e h with ⟨hc4, h⟩ | ⟨hc4, h⟩
    · refine rn_icmp_ge_t (tgt := 24) hc4 zd_X11_join_0.2.1.1.2 rfl ?_
      refine rn_iload_n (q := 1) 1 rfl zd_X11_join_0.2.2.1.1 ?_
      refine rn_aload_n (q := 0) 0 rfl zd_X11_join_0.2.2.1.2 ?_
      refine rn_getR zf_X11_26 (Or.inl ⟨_, rfl⟩) k_a0 (zx_11_2 hW k_a0) zd_X11_join_0.2.2.2.1 ?_
      refine rn_getI zf_X11_157 (Or.inl rfl) (zw_11_2 hW k_a0) zd_X11_join_0.2.2.2.2 ?_
      refine rn_iconst (v := 1) zd_X11_join_1.1.1.1.1 rfl ?_
      refine rn_isub zd_X11_join_1.1.1.1.2 ?_
      rcases zif_e h with ⟨hc5, h⟩ | ⟨hc5, h⟩
      · refine rn_icmp_ne_f (tgt := 41) hc5 zd_X11_join_1.1.1.2.1 rfl ?_
        refine rn_iconst (v := 1) zd_X11_join_1.1.1.2.2 rfl ?_
        refine rn_goto (tgt := 42) zd_X11_join_1.1.2.1.1 rfl ?_
        exact rn_sub (ls' := [(0, .ref a0), (1, .int x1)]) [0, 1] rfl (ok_j_X11_join_42 hW k_a0 h)
      · refine rn_icmp_ne_t (tgt := 41) hc5 zd_X11_join_1.1.1.2.1 rfl ?_
        refine rn_iconst (v := 0) zd_X11_join_1.1.2.1.2 rfl ?_
        exact rn_sub (ls' := [(0, .ref a0), (1, .int x1)]) [0, 1] rfl (ok_j_X11_join_42 hW k_a0 h)
    · refine rn_icmp_ge_f (tgt := 24) hc4 zd_X11_join_0.2.1.1.2 rfl ?_
      refine rn_iconst (v := -1) zd_X11_join_0.2.1.2.1 rfl ?_
      cases h
      exact rn_iret zd_X11_join_0.2.1.2.2 rfl
def n_X11_undo (R : zR) (M : zM) (L : zL) (a0 : Nat) : Option (Int32 × zM × zL) :=
  zbd3 (n_X2_takeBack R M L (R a0 3) (R a0 2)) fun r1 M2 L3 =>
  zck (zbool r1) <|
  some (r1, M2, L3)
set_option maxRecDepth 4000 in
theorem ok_X11_undo {G : zG} {K : zK} {R : zR} {M : zM} {L : zL} (hW : zWT R K) {a0 : Nat} (k_a0 : K[a0]? = some (11, 11)) {r' : Int32} {M' : zM} {L' : zL} (h : n_X11_undo R M L a0 = some (r', M', L')) : Rm G mt_X11_undo [.ref a0] (M, L, R, K) (some (.int r')) (M', L', R, K) := by
  refine rm_rn rfl rfl (Nat.le_of_ble_eq_true rfl) ?_
  show Rn G mt_X11_undo 0 [(0, .ref a0)] [] (M, L, R, K) (some (.int r')) (M', L', R, K)
  unfold n_X11_undo at h
  refine rn_aload_n (q := 0) 0 rfl zd_X11_undo_0.1.1 ?_
  refine rn_getR zf_X11_33 (Or.inl ⟨_, rfl⟩) k_a0 (zx_11_3 hW k_a0) zd_X11_undo_0.1.2.1 ?_
  refine rn_aload_n (q := 0) 0 rfl zd_X11_undo_0.1.2.2 ?_
  refine rn_getR zf_X11_26 (Or.inl ⟨_, rfl⟩) k_a0 (zx_11_2 hW k_a0) zd_X11_undo_0.2.1 ?_
  obtain ⟨r1, M2, L3, h4, h⟩ := zbd3_e h
  refine rn_callVi (As := [.ref (R a0 2)]) (rest := []) zl_X11_184 zm_X2_takeBack ⟨by decide, by decide⟩ (ci := 2) rfl rfl (by decide) (zw_11_3 hW k_a0) rfl rfl (Nat.le_of_ble_eq_true rfl) zd_X11_undo_0.2.2.1 (ok_X2_takeBack hW (zw_11_3 hW k_a0) (zw_11_2 hW k_a0) h4) ?_
  obtain ⟨hc5, h⟩ := zck_e h
  cases h
  exact rn_zret zd_X11_undo_0.2.2.2 rfl (zbool_n hc5)
def nj_X11_becomes_32 (R : zR) (M : zM) (L : zL) (b0 : Nat) (b1 : Nat) (b2 : Nat) (s3 : Int32) : Option (Int32 × zM × zL) :=
  zbd3 (n_X1_period R M L b0 b1 b2 s3) fun r3 M4 L5 =>
  some (r3, M4, L5)
set_option maxRecDepth 4000 in
theorem ok_j_X11_becomes_32 {G : zG} {K : zK} {R : zR} {M : zM} {L : zL} (hW : zWT R K) {b0 : Nat} {b1 : Nat} {b2 : Nat} {s3 : Int32} (k_b0 : K[b0]? = some (1, 2)) (k_b1 : K[b1]? = some (7, 11)) (k_b2 : K[b2]? = some (6, 8)) {r' : Int32} {M' : zM} {L' : zL} (h : nj_X11_becomes_32 R M L b0 b1 b2 s3 = some (r', M', L')) : Rn G mt_X11_becomes 32 [] [.int s3, .ref b2, .ref b1, .ref b0] (M, L, R, K) (some (.int r')) (M', L', R, K) := by
  unfold nj_X11_becomes_32 at h
  obtain ⟨r3, M4, L5, h6, h⟩ := zbd3_e h
  refine rn_callVi (As := [.ref b1, .ref b2, .int s3]) (rest := []) zl_X11_188 zm_X1_period ⟨by decide, by decide⟩ (ci := 1) rfl rfl (by decide) k_b0 rfl rfl (Nat.le_of_ble_eq_true rfl) zd_X11_becomes_1.2.1 (ok_X1_period hW k_b0 k_b1 k_b2 h6) ?_
  cases h
  exact rn_iret zd_X11_becomes_1.2.2 rfl
def nj_X11_becomes_11 (R : zR) (M : zM) (L : zL) (a0 : Nat) (x1 : Int32) : Option (Int32 × zM × zL) :=
  if x1 = 0 then (
    nj_X11_becomes_32 R M L (R a0 4) (R a0 8) (R a0 2) (1 : Int32)
  ) else (
    nj_X11_becomes_32 R M L (R a0 4) (R a0 8) (R a0 2) (0 : Int32)
  )
set_option maxRecDepth 4000 in
theorem ok_j_X11_becomes_11 {G : zG} {K : zK} {R : zR} {M : zM} {L : zL} (hW : zWT R K) {a0 : Nat} {x1 : Int32} (k_a0 : K[a0]? = some (11, 11)) {r' : Int32} {M' : zM} {L' : zL} (h : nj_X11_becomes_11 R M L a0 x1 = some (r', M', L')) : Rn G mt_X11_becomes 11 [(0, .ref a0), (1, .int x1)] [] (M, L, R, K) (some (.int r')) (M', L', R, K) := by
  unfold nj_X11_becomes_11 at h
  refine rn_aload_n (q := 0) 0 rfl zd_X11_becomes_0.1.2.2.2 ?_
  refine rn_getR zf_X11_40 (Or.inl ⟨_, rfl⟩) k_a0 (zx_11_4 hW k_a0) zd_X11_becomes_0.2.1.1.1 ?_
  refine rn_aload_n (q := 0) 0 rfl zd_X11_becomes_0.2.1.1.2 ?_
  refine rn_getR zf_X11_68 (Or.inl ⟨_, rfl⟩) k_a0 (zx_11_8 hW k_a0) zd_X11_becomes_0.2.1.2.1 ?_
  refine rn_aload_n (q := 0) 0 rfl zd_X11_becomes_0.2.1.2.2 ?_
  refine rn_getR zf_X11_26 (Or.inl ⟨_, rfl⟩) k_a0 (zx_11_2 hW k_a0) zd_X11_becomes_0.2.2.1.1 ?_
  refine rn_iload_n (q := 1) 1 rfl zd_X11_becomes_0.2.2.1.2 ?_
  rcases zif_e h with ⟨hc2, h⟩ | ⟨hc2, h⟩
  · refine rn_if_ne_f (tgt := 31) hc2 zd_X11_becomes_0.2.2.2.1 rfl ?_
    refine rn_iconst (v := 1) zd_X11_becomes_0.2.2.2.2 rfl ?_
    refine rn_goto (tgt := 32) zd_X11_becomes_1.1.1 rfl ?_
    exact rn_sub (ls' := []) [] rfl (ok_j_X11_becomes_32 hW (zw_11_4 hW k_a0) (zw_11_8 hW k_a0) (zw_11_2 hW k_a0) h)
  · refine rn_if_ne_t (tgt := 31) hc2 zd_X11_becomes_0.2.2.2.1 rfl ?_
    refine rn_iconst (v := 0) zd_X11_becomes_1.1.2 rfl ?_
    exact rn_sub (ls' := []) [] rfl (ok_j_X11_becomes_32 hW (zw_11_4 hW k_a0) (zw_11_8 hW k_a0) (zw_11_2 hW k_a0) h)
def n_X11_becomes (R : zR) (M : zM) (L : zL) (a0 : Nat) (x1 : Int32) : Option (Int32 × zM × zL) :=
  if x1 = 0 then (
    nj_X11_becomes_11 R M L a0 x1
  ) else (
    if x1 = (1 : Int32) then (
      nj_X11_becomes_11 R M L a0 x1
    ) else (
      some ((-1 : Int32), M, L)
    )
  )
set_option maxRecDepth 4000 in
theorem ok_X11_becomes {G : zG} {K : zK} {R : zR} {M : zM} {L : zL} (hW : zWT R K) {a0 : Nat} {x1 : Int32} (k_a0 : K[a0]? = some (11, 11)) {r' : Int32} {M' : zM} {L' : zL} (h : n_X11_becomes R M L a0 x1 = some (r', M', L')) : Rm G mt_X11_becomes [.ref a0, .int x1] (M, L, R, K) (some (.int r')) (M', L', R, K) := by
  refine rm_rn rfl rfl (Nat.le_of_ble_eq_true rfl) ?_
  show Rn G mt_X11_becomes 0 [(0, .ref a0), (1, .int x1)] [] (M, L, R, K) (some (.int r')) (M', L', R, K)
  unfold n_X11_becomes at h
  refine rn_iload_n (q := 1) 1 rfl zd_X11_becomes_0.1.1.1.1 ?_
  rcases zif_e h with ⟨hc1, h⟩ | ⟨hc1, h⟩
  · refine rn_if_eq_t (tgt := 11) hc1 zd_X11_becomes_0.1.1.1.2 rfl ?_
    exact rn_sub (ls' := [(0, .ref a0), (1, .int x1)]) [0, 1] rfl (ok_j_X11_becomes_11 hW k_a0 h)
  · refine rn_if_eq_f (tgt := 11) hc1 zd_X11_becomes_0.1.1.1.2 rfl ?_
    refine rn_iload_n (q := 1) 1 rfl zd_X11_becomes_0.1.1.2.1 ?_
    refine rn_iconst (v := 1) zd_X11_becomes_0.1.1.2.2 rfl ?_
    rcases zif_e h with ⟨hc7, h⟩ | ⟨hc7, h⟩
    · refine rn_icmp_eq_t (tgt := 11) hc7 zd_X11_becomes_0.1.2.1.1 rfl ?_
      exact rn_sub (ls' := [(0, .ref a0), (1, .int x1)]) [0, 1] rfl (ok_j_X11_becomes_11 hW k_a0 h)
    · refine rn_icmp_eq_f (tgt := 11) hc7 zd_X11_becomes_0.1.2.1.1 rfl ?_
      refine rn_iconst (v := -1) zd_X11_becomes_0.1.2.1.2 rfl ?_
      cases h
      exact rn_iret zd_X11_becomes_0.1.2.2.1 rfl
def n_X11_apart (R : zR) (M : zM) (L : zL) (a0 : Nat) (x1 : Int32) : Option (Int32 × zM × zL) :=
  zbd (f_X11_isEvenings x1) fun r1 =>
  if r1 = 0 then (
    some ((-1 : Int32), M, L)
  ) else (
    zbd3 (n_X1_spreadAfter R M L (R a0 4) (R a0 8) (R a0 2) x1) fun r4 M5 L6 =>
    some (r4, M5, L6)
  )
set_option maxRecDepth 4000 in
theorem ok_X11_apart {G : zG} {K : zK} {R : zR} {M : zM} {L : zL} (hW : zWT R K) {a0 : Nat} {x1 : Int32} (k_a0 : K[a0]? = some (11, 11)) {r' : Int32} {M' : zM} {L' : zL} (h : n_X11_apart R M L a0 x1 = some (r', M', L')) : Rm G mt_X11_apart [.ref a0, .int x1] (M, L, R, K) (some (.int r')) (M', L', R, K) := by
  refine rm_rn rfl rfl (Nat.le_of_ble_eq_true rfl) ?_
  show Rn G mt_X11_apart 0 [(0, .ref a0), (1, .int x1)] [] (M, L, R, K) (some (.int r')) (M', L', R, K)
  unfold n_X11_apart at h
  refine rn_iload_n (q := 1) 1 rfl zd_X11_apart_0.1.1.1 ?_
  obtain ⟨r1, h2, h⟩ := zbd_e h
  refine rn_callSi (As := [.int x1]) (rest := []) zl_X11_133 zm_X11_isEvenings ⟨by decide, by decide⟩ rfl rfl (Nat.le_of_ble_eq_true rfl) zd_X11_apart_0.1.1.2.1 (ok_X11_isEvenings hW h2) ?_
  rcases zif_e h with ⟨hc3, h⟩ | ⟨hc3, h⟩
  · refine rn_if_ne_f (tgt := 9) hc3 zd_X11_apart_0.1.1.2.2 rfl ?_
    refine rn_iconst (v := -1) zd_X11_apart_0.1.2.1.1 rfl ?_
    cases h
    exact rn_iret zd_X11_apart_0.1.2.1.2 rfl
  · refine rn_if_ne_t (tgt := 9) hc3 zd_X11_apart_0.1.1.2.2 rfl ?_
    refine rn_aload_n (q := 0) 0 rfl zd_X11_apart_0.1.2.2.1 ?_
    refine rn_getR zf_X11_40 (Or.inl ⟨_, rfl⟩) k_a0 (zx_11_4 hW k_a0) zd_X11_apart_0.1.2.2.2 ?_
    refine rn_aload_n (q := 0) 0 rfl zd_X11_apart_0.2.1.1 ?_
    refine rn_getR zf_X11_68 (Or.inl ⟨_, rfl⟩) k_a0 (zx_11_8 hW k_a0) zd_X11_apart_0.2.1.2.1 ?_
    refine rn_aload_n (q := 0) 0 rfl zd_X11_apart_0.2.1.2.2 ?_
    refine rn_getR zf_X11_26 (Or.inl ⟨_, rfl⟩) k_a0 (zx_11_2 hW k_a0) zd_X11_apart_0.2.2.1.1 ?_
    refine rn_iload_n (q := 1) 1 rfl zd_X11_apart_0.2.2.1.2 ?_
    obtain ⟨r4, M5, L6, h7, h⟩ := zbd3_e h
    refine rn_callVi (As := [.ref (R a0 8), .ref (R a0 2), .int x1]) (rest := []) zl_X11_192 zm_X1_spreadAfter ⟨by decide, by decide⟩ (ci := 1) rfl rfl (by decide) (zw_11_4 hW k_a0) rfl rfl (Nat.le_of_ble_eq_true rfl) zd_X11_apart_0.2.2.2.1 (ok_X1_spreadAfter hW (zw_11_4 hW k_a0) (zw_11_8 hW k_a0) (zw_11_2 hW k_a0) h7) ?_
    cases h
    exact rn_iret zd_X11_apart_0.2.2.2.2 rfl
def n_X11_even (R : zR) (M : zM) (L : zL) (a0 : Nat) (x1 : Int32) (x2 : Int32) : Option (Int32 × zM × zL) :=
  if x1 < 0 then (
    some ((-1 : Int32), M, L)
  ) else (
    if x2 < 0 then (
      some ((-1 : Int32), M, L)
    ) else (
      if x2 ≤ (2 : Int32) then (
        zbd3 (n_X1_evenAfter R M L (R a0 4) (R a0 8) (R a0 2) x1 x2) fun r4 M5 L6 =>
        some (r4, M5, L6)
      ) else (
        some ((-1 : Int32), M, L)
      )
    )
  )
set_option maxRecDepth 4000 in
theorem ok_X11_even {G : zG} {K : zK} {R : zR} {M : zM} {L : zL} (hW : zWT R K) {a0 : Nat} {x1 : Int32} {x2 : Int32} (k_a0 : K[a0]? = some (11, 11)) {r' : Int32} {M' : zM} {L' : zL} (h : n_X11_even R M L a0 x1 x2 = some (r', M', L')) : Rm G mt_X11_even [.ref a0, .int x1, .int x2] (M, L, R, K) (some (.int r')) (M', L', R, K) := by
  refine rm_rn rfl rfl (Nat.le_of_ble_eq_true rfl) ?_
  show Rn G mt_X11_even 0 [(0, .ref a0), (1, .int x1), (2, .int x2)] [] (M, L, R, K) (some (.int r')) (M', L', R, K)
  unfold n_X11_even at h
  refine rn_iload_n (q := 1) 1 rfl zd_X11_even_0.1.1.1.1 ?_
  rcases zif_e h with ⟨hc1, h⟩ | ⟨hc1, h⟩
  · refine rn_if_lt_t (tgt := 13) hc1 zd_X11_even_0.1.1.1.2 rfl ?_
    refine rn_iconst (v := -1) zd_X11_even_0.1.2.2.2 rfl ?_
    cases h
    exact rn_iret zd_X11_even_0.2.1.1.1 rfl
  · refine rn_if_lt_f (tgt := 13) hc1 zd_X11_even_0.1.1.1.2 rfl ?_
    refine rn_iload_n (q := 2) 2 rfl zd_X11_even_0.1.1.2.1 ?_
    rcases zif_e h with ⟨hc2, h⟩ | ⟨hc2, h⟩
    · refine rn_if_lt_t (tgt := 13) hc2 zd_X11_even_0.1.1.2.2 rfl ?_
      refine rn_iconst (v := -1) zd_X11_even_0.1.2.2.2 rfl ?_
      cases h
      exact rn_iret zd_X11_even_0.2.1.1.1 rfl
    · refine rn_if_lt_f (tgt := 13) hc2 zd_X11_even_0.1.1.2.2 rfl ?_
      refine rn_iload_n (q := 2) 2 rfl zd_X11_even_0.1.2.1.1 ?_
      refine rn_iconst (v := 2) zd_X11_even_0.1.2.1.2 rfl ?_
      rcases zif_e h with ⟨hc3, h⟩ | ⟨hc3, h⟩
      · refine rn_icmp_le_t (tgt := 15) hc3 zd_X11_even_0.1.2.2.1 rfl ?_
        refine rn_aload_n (q := 0) 0 rfl zd_X11_even_0.2.1.1.2 ?_
        refine rn_getR zf_X11_40 (Or.inl ⟨_, rfl⟩) k_a0 (zx_11_4 hW k_a0) zd_X11_even_0.2.1.2.1 ?_
        refine rn_aload_n (q := 0) 0 rfl zd_X11_even_0.2.1.2.2 ?_
        refine rn_getR zf_X11_68 (Or.inl ⟨_, rfl⟩) k_a0 (zx_11_8 hW k_a0) zd_X11_even_0.2.2.1.1 ?_
        refine rn_aload_n (q := 0) 0 rfl zd_X11_even_0.2.2.1.2 ?_
        refine rn_getR zf_X11_26 (Or.inl ⟨_, rfl⟩) k_a0 (zx_11_2 hW k_a0) zd_X11_even_0.2.2.2.1 ?_
        refine rn_iload_n (q := 1) 1 rfl zd_X11_even_0.2.2.2.2 ?_
        refine rn_iload_n (q := 2) 2 rfl zd_X11_even_1.1 ?_
        obtain ⟨r4, M5, L6, h7, h⟩ := zbd3_e h
        refine rn_callVi (As := [.ref (R a0 8), .ref (R a0 2), .int x1, .int x2]) (rest := []) zl_X11_196 zm_X1_evenAfter ⟨by decide, by decide⟩ (ci := 1) rfl rfl (by decide) (zw_11_4 hW k_a0) rfl rfl (Nat.le_of_ble_eq_true rfl) zd_X11_even_1.2.1 (ok_X1_evenAfter hW (zw_11_4 hW k_a0) (zw_11_8 hW k_a0) (zw_11_2 hW k_a0) h7) ?_
        cases h
        exact rn_iret zd_X11_even_1.2.2 rfl
      · refine rn_icmp_le_f (tgt := 15) hc3 zd_X11_even_0.1.2.2.1 rfl ?_
        refine rn_iconst (v := -1) zd_X11_even_0.1.2.2.2 rfl ?_
        cases h
        exact rn_iret zd_X11_even_0.2.1.1.1 rfl
def n_X11_soonest (R : zR) (M : zM) (L : zL) (a0 : Nat) (x1 : Int32) : Option (Int32 × zM × zL) :=
  if 0 ≤ x1 then (
    zbd3 (n_X1_soonestSharing R M L (R a0 4) (R a0 8) (R a0 2) x1) fun r2 M3 L4 =>
    some (r2, M3, L4)
  ) else (
    some ((-1 : Int32), M, L)
  )
set_option maxRecDepth 4000 in
theorem ok_X11_soonest {G : zG} {K : zK} {R : zR} {M : zM} {L : zL} (hW : zWT R K) {a0 : Nat} {x1 : Int32} (k_a0 : K[a0]? = some (11, 11)) {r' : Int32} {M' : zM} {L' : zL} (h : n_X11_soonest R M L a0 x1 = some (r', M', L')) : Rm G mt_X11_soonest [.ref a0, .int x1] (M, L, R, K) (some (.int r')) (M', L', R, K) := by
  refine rm_rn rfl rfl (Nat.le_of_ble_eq_true rfl) ?_
  show Rn G mt_X11_soonest 0 [(0, .ref a0), (1, .int x1)] [] (M, L, R, K) (some (.int r')) (M', L', R, K)
  unfold n_X11_soonest at h
  refine rn_iload_n (q := 1) 1 rfl zd_X11_soonest_0.1.1.1 ?_
  rcases zif_e h with ⟨hc1, h⟩ | ⟨hc1, h⟩
  · refine rn_if_ge_t (tgt := 6) hc1 zd_X11_soonest_0.1.1.2.1 rfl ?_
    refine rn_aload_n (q := 0) 0 rfl zd_X11_soonest_0.1.2.2.1 ?_
    refine rn_getR zf_X11_40 (Or.inl ⟨_, rfl⟩) k_a0 (zx_11_4 hW k_a0) zd_X11_soonest_0.1.2.2.2 ?_
    refine rn_aload_n (q := 0) 0 rfl zd_X11_soonest_0.2.1.1 ?_
    refine rn_getR zf_X11_68 (Or.inl ⟨_, rfl⟩) k_a0 (zx_11_8 hW k_a0) zd_X11_soonest_0.2.1.2.1 ?_
    refine rn_aload_n (q := 0) 0 rfl zd_X11_soonest_0.2.1.2.2 ?_
    refine rn_getR zf_X11_26 (Or.inl ⟨_, rfl⟩) k_a0 (zx_11_2 hW k_a0) zd_X11_soonest_0.2.2.1.1 ?_
    refine rn_iload_n (q := 1) 1 rfl zd_X11_soonest_0.2.2.1.2 ?_
    obtain ⟨r2, M3, L4, h5, h⟩ := zbd3_e h
    refine rn_callVi (As := [.ref (R a0 8), .ref (R a0 2), .int x1]) (rest := []) zl_X11_200 zm_X1_soonestSharing ⟨by decide, by decide⟩ (ci := 1) rfl rfl (by decide) (zw_11_4 hW k_a0) rfl rfl (Nat.le_of_ble_eq_true rfl) zd_X11_soonest_0.2.2.2.1 (ok_X1_soonestSharing hW (zw_11_4 hW k_a0) (zw_11_8 hW k_a0) (zw_11_2 hW k_a0) h5) ?_
    cases h
    exact rn_iret zd_X11_soonest_0.2.2.2.2 rfl
  · refine rn_if_ge_f (tgt := 6) hc1 zd_X11_soonest_0.1.1.2.1 rfl ?_
    refine rn_iconst (v := -1) zd_X11_soonest_0.1.1.2.2 rfl ?_
    cases h
    exact rn_iret zd_X11_soonest_0.1.2.1 rfl
def n_X11_start (R : zR) (M : zM) (L : zL) (a0 : Nat) (x1 : Int32) (x2 : Int32) : Option (Int32 × zM × zL) :=
  zbd (f_X6_has M (R a0 2) x1) fun r1 =>
  if r1 = 0 then (
    some ((-1 : Int32), M, L)
  ) else (
    if x2 < 0 then (
      some ((-1 : Int32), M, L)
    ) else (
      if x2 ≤ (1 : Int32) then (
        zbd2 (n_X0_findStart R M L (R a0 5) (R a0 8) (R a0 2) x1) fun M6 L7 =>
        if x2 = 0 then (
          some ((M6 (R a0 5) 2), M6, L7)
        ) else (
          some ((M6 (R a0 5) 3), M6, L7)
        )
      ) else (
        some ((-1 : Int32), M, L)
      )
    )
  )
set_option maxRecDepth 4000 in
theorem ok_X11_start {G : zG} {K : zK} {R : zR} {M : zM} {L : zL} (hW : zWT R K) {a0 : Nat} {x1 : Int32} {x2 : Int32} (k_a0 : K[a0]? = some (11, 11)) {r' : Int32} {M' : zM} {L' : zL} (h : n_X11_start R M L a0 x1 x2 = some (r', M', L')) : Rm G mt_X11_start [.ref a0, .int x1, .int x2] (M, L, R, K) (some (.int r')) (M', L', R, K) := by
  refine rm_rn rfl rfl (Nat.le_of_ble_eq_true rfl) ?_
  show Rn G mt_X11_start 0 [(0, .ref a0), (1, .int x1), (2, .int x2)] [] (M, L, R, K) (some (.int r')) (M', L', R, K)
  unfold n_X11_start at h
  refine rn_aload_n (q := 0) 0 rfl zd_X11_start_0.1.1.1.1 ?_
  refine rn_getR zf_X11_26 (Or.inl ⟨_, rfl⟩) k_a0 (zx_11_2 hW k_a0) zd_X11_start_0.1.1.1.2 ?_
  refine rn_iload_n (q := 1) 1 rfl zd_X11_start_0.1.1.2.1 ?_
  obtain ⟨r1, h2, h⟩ := zbd_e h
  refine rn_callVi (As := [.int x1]) (rest := []) zl_X11_104 zm_X6_has ⟨by decide, by decide⟩ (ci := 6) rfl rfl (by decide) (zw_11_2 hW k_a0) rfl rfl (Nat.le_of_ble_eq_true rfl) zd_X11_start_0.1.1.2.2 (ok_X6_has hW (zw_11_2 hW k_a0) h2) ?_
  rcases zif_e h with ⟨hc3, h⟩ | ⟨hc3, h⟩
  · refine rn_if_eq_t (tgt := 20) hc3 zd_X11_start_0.1.2.1.1 rfl ?_
    refine rn_iconst (v := -1) zd_X11_start_0.2.1.2.1 rfl ?_
    cases h
    exact rn_iret zd_X11_start_0.2.1.2.2 rfl
  · refine rn_if_eq_f (tgt := 20) hc3 zd_X11_start_0.1.2.1.1 rfl ?_
    refine rn_iload_n (q := 2) 2 rfl zd_X11_start_0.1.2.1.2 ?_
    rcases zif_e h with ⟨hc4, h⟩ | ⟨hc4, h⟩
    · refine rn_if_lt_t (tgt := 20) hc4 zd_X11_start_0.1.2.2.1 rfl ?_
      refine rn_iconst (v := -1) zd_X11_start_0.2.1.2.1 rfl ?_
      cases h
      exact rn_iret zd_X11_start_0.2.1.2.2 rfl
    · refine rn_if_lt_f (tgt := 20) hc4 zd_X11_start_0.1.2.2.1 rfl ?_
      refine rn_iload_n (q := 2) 2 rfl zd_X11_start_0.1.2.2.2 ?_
      refine rn_iconst (v := 1) zd_X11_start_0.2.1.1.1 rfl ?_
      rcases zif_e h with ⟨hc5, h⟩ | ⟨hc5, h⟩
      · refine rn_icmp_le_t (tgt := 22) hc5 zd_X11_start_0.2.1.1.2 rfl ?_
        refine rn_aload_n (q := 0) 0 rfl zd_X11_start_0.2.2.1.1 ?_
        refine rn_getR zf_X11_47 (Or.inl ⟨_, rfl⟩) k_a0 (zx_11_5 hW k_a0) zd_X11_start_0.2.2.1.2 ?_
        refine rn_aload_n (q := 0) 0 rfl zd_X11_start_0.2.2.2.1 ?_
        refine rn_getR zf_X11_68 (Or.inl ⟨_, rfl⟩) k_a0 (zx_11_8 hW k_a0) zd_X11_start_0.2.2.2.2 ?_
        refine rn_aload_n (q := 0) 0 rfl zd_X11_start_1.1.1.1 ?_
        refine rn_getR zf_X11_26 (Or.inl ⟨_, rfl⟩) k_a0 (zx_11_2 hW k_a0) zd_X11_start_1.1.1.2.1 ?_
        refine rn_iload_n (q := 1) 1 rfl zd_X11_start_1.1.1.2.2 ?_
        obtain ⟨M6, L7, h8, h⟩ := zbd2_e h
        refine rn_callVv (As := [.ref (R a0 8), .ref (R a0 2), .int x1]) (rest := []) zl_X11_203 zm_X0_findStart ⟨by decide, by decide⟩ (ci := 0) rfl rfl (by decide) (zw_11_5 hW k_a0) rfl rfl (Nat.le_of_ble_eq_true rfl) zd_X11_start_1.1.2.1.1 (ok_X0_findStart hW (zw_11_5 hW k_a0) (zw_11_8 hW k_a0) (zw_11_2 hW k_a0) h8) ?_
        refine rn_iload_n (q := 2) 2 rfl zd_X11_start_1.1.2.1.2 ?_
        rcases zif_e h with ⟨hc9, h⟩ | ⟨hc9, h⟩
        · refine rn_if_ne_f (tgt := 52) hc9 zd_X11_start_1.1.2.2.1 rfl ?_
          refine rn_aload_n (q := 0) 0 rfl zd_X11_start_1.1.2.2.2 ?_
          refine rn_getR zf_X11_47 (Or.inl ⟨_, rfl⟩) k_a0 (zx_11_5 hW k_a0) zd_X11_start_1.2.1.1 ?_
          refine rn_getI zf_X11_207 (Or.inl rfl) (zw_11_5 hW k_a0) zd_X11_start_1.2.1.2.1 ?_
          refine rn_goto (tgt := 59) zd_X11_start_1.2.1.2.2 rfl ?_
          cases h
          exact rn_iret zd_X11_start_1.2.2.2.2 rfl
        · refine rn_if_ne_t (tgt := 52) hc9 zd_X11_start_1.1.2.2.1 rfl ?_
          refine rn_aload_n (q := 0) 0 rfl zd_X11_start_1.2.2.1.1 ?_
          refine rn_getR zf_X11_47 (Or.inl ⟨_, rfl⟩) k_a0 (zx_11_5 hW k_a0) zd_X11_start_1.2.2.1.2 ?_
          refine rn_getI zf_X11_210 (Or.inl rfl) (zw_11_5 hW k_a0) zd_X11_start_1.2.2.2.1 ?_
          cases h
          exact rn_iret zd_X11_start_1.2.2.2.2 rfl
      · refine rn_icmp_le_f (tgt := 22) hc5 zd_X11_start_0.2.1.1.2 rfl ?_
        refine rn_iconst (v := -1) zd_X11_start_0.2.1.2.1 rfl ?_
        cases h
        exact rn_iret zd_X11_start_0.2.1.2.2 rfl
def n_X11_wealth (R : zR) (M : zM) (L : zL) (a0 : Nat) (x1 : Int32) (x2 : Int32) (x3 : Int32) : Option (Int32 × zM × zL) :=
  zbd (f_X6_has M (R a0 2) x1) fun r1 =>
  if r1 = 0 then (
    some ((-1000000 : Int32), M, L)
  ) else (
    zbd (f_X6_has M (R a0 2) x2) fun r4 =>
    if r4 = 0 then (
      some ((-1000000 : Int32), M, L)
    ) else (
      if x3 < 0 then (
        some ((-1000000 : Int32), M, L)
      ) else (
        zbd (f_X6_shown R M (R a0 2) x1) fun r8 =>
        if x3 ≤ r8 then (
          zbd3 (n_X0_lessPaid R M L (R a0 5) (R a0 8) (R a0 2) x1 x2 x3) fun r11 M12 L13 =>
          some (r11, M12, L13)
        ) else (
          some ((-1000000 : Int32), M, L)
        )
      )
    )
  )
set_option maxRecDepth 4000 in
theorem ok_X11_wealth {G : zG} {K : zK} {R : zR} {M : zM} {L : zL} (hW : zWT R K) {a0 : Nat} {x1 : Int32} {x2 : Int32} {x3 : Int32} (k_a0 : K[a0]? = some (11, 11)) {r' : Int32} {M' : zM} {L' : zL} (h : n_X11_wealth R M L a0 x1 x2 x3 = some (r', M', L')) : Rm G mt_X11_wealth [.ref a0, .int x1, .int x2, .int x3] (M, L, R, K) (some (.int r')) (M', L', R, K) := by
  refine rm_rn rfl rfl (Nat.le_of_ble_eq_true rfl) ?_
  show Rn G mt_X11_wealth 0 [(0, .ref a0), (1, .int x1), (2, .int x2), (3, .int x3)] [] (M, L, R, K) (some (.int r')) (M', L', R, K)
  unfold n_X11_wealth at h
  refine rn_aload_n (q := 0) 0 rfl zd_X11_wealth_0.1.1.1.1 ?_
  refine rn_getR zf_X11_26 (Or.inl ⟨_, rfl⟩) k_a0 (zx_11_2 hW k_a0) zd_X11_wealth_0.1.1.1.2 ?_
  refine rn_iload_n (q := 1) 1 rfl zd_X11_wealth_0.1.1.2.1 ?_
  obtain ⟨r1, h2, h⟩ := zbd_e h
  refine rn_callVi (As := [.int x1]) (rest := []) zl_X11_104 zm_X6_has ⟨by decide, by decide⟩ (ci := 6) rfl rfl (by decide) (zw_11_2 hW k_a0) rfl rfl (Nat.le_of_ble_eq_true rfl) zd_X11_wealth_0.1.1.2.2 (ok_X6_has hW (zw_11_2 hW k_a0) h2) ?_
  rcases zif_e h with ⟨hc3, h⟩ | ⟨hc3, h⟩
  · refine rn_if_eq_t (tgt := 38) hc3 zd_X11_wealth_0.1.2.1.1 rfl ?_
    refine rn_ldc (v := -1000000) zk_X11_213 zd_X11_wealth_1.1.1.2.2 ?_
    cases h
    exact rn_iret zd_X11_wealth_1.1.2.1.1 rfl
  · refine rn_if_eq_f (tgt := 38) hc3 zd_X11_wealth_0.1.2.1.1 rfl ?_
    refine rn_aload_n (q := 0) 0 rfl zd_X11_wealth_0.1.2.1.2 ?_
    refine rn_getR zf_X11_26 (Or.inl ⟨_, rfl⟩) k_a0 (zx_11_2 hW k_a0) zd_X11_wealth_0.1.2.2.1 ?_
    refine rn_iload_n (q := 2) 2 rfl zd_X11_wealth_0.1.2.2.2 ?_
    obtain ⟨r4, h5, h⟩ := zbd_e h
    refine rn_callVi (As := [.int x2]) (rest := []) zl_X11_104 zm_X6_has ⟨by decide, by decide⟩ (ci := 6) rfl rfl (by decide) (zw_11_2 hW k_a0) rfl rfl (Nat.le_of_ble_eq_true rfl) zd_X11_wealth_0.2.1.1.1 (ok_X6_has hW (zw_11_2 hW k_a0) h5) ?_
    rcases zif_e h with ⟨hc6, h⟩ | ⟨hc6, h⟩
    · refine rn_if_eq_t (tgt := 38) hc6 zd_X11_wealth_0.2.1.1.2 rfl ?_
      refine rn_ldc (v := -1000000) zk_X11_213 zd_X11_wealth_1.1.1.2.2 ?_
      cases h
      exact rn_iret zd_X11_wealth_1.1.2.1.1 rfl
    · refine rn_if_eq_f (tgt := 38) hc6 zd_X11_wealth_0.2.1.1.2 rfl ?_
      refine rn_iload_n (q := 3) 3 rfl zd_X11_wealth_0.2.1.2.1 ?_
      rcases zif_e h with ⟨hc7, h⟩ | ⟨hc7, h⟩
      · refine rn_if_lt_t (tgt := 38) hc7 zd_X11_wealth_0.2.1.2.2 rfl ?_
        refine rn_ldc (v := -1000000) zk_X11_213 zd_X11_wealth_1.1.1.2.2 ?_
        cases h
        exact rn_iret zd_X11_wealth_1.1.2.1.1 rfl
      · refine rn_if_lt_f (tgt := 38) hc7 zd_X11_wealth_0.2.1.2.2 rfl ?_
        refine rn_iload_n (q := 3) 3 rfl zd_X11_wealth_0.2.2.1.1 ?_
        refine rn_aload_n (q := 0) 0 rfl zd_X11_wealth_0.2.2.1.2 ?_
        refine rn_getR zf_X11_26 (Or.inl ⟨_, rfl⟩) k_a0 (zx_11_2 hW k_a0) zd_X11_wealth_0.2.2.2.1 ?_
        refine rn_iload_n (q := 1) 1 rfl zd_X11_wealth_0.2.2.2.2 ?_
        obtain ⟨r8, h9, h⟩ := zbd_e h
        refine rn_callVi (As := [.int x1]) (rest := [.int x3]) zl_X11_115 zm_X6_shown ⟨by decide, by decide⟩ (ci := 6) rfl rfl (by decide) (zw_11_2 hW k_a0) rfl rfl (Nat.le_of_ble_eq_true rfl) zd_X11_wealth_1.1.1.1 (ok_X6_shown hW (zw_11_2 hW k_a0) h9) ?_
        rcases zif_e h with ⟨hc10, h⟩ | ⟨hc10, h⟩
        · refine rn_icmp_le_t (tgt := 41) hc10 zd_X11_wealth_1.1.1.2.1 rfl ?_
          refine rn_aload_n (q := 0) 0 rfl zd_X11_wealth_1.1.2.1.2 ?_
          refine rn_getR zf_X11_47 (Or.inl ⟨_, rfl⟩) k_a0 (zx_11_5 hW k_a0) zd_X11_wealth_1.1.2.2.1 ?_
          refine rn_aload_n (q := 0) 0 rfl zd_X11_wealth_1.1.2.2.2 ?_
          refine rn_getR zf_X11_68 (Or.inl ⟨_, rfl⟩) k_a0 (zx_11_8 hW k_a0) zd_X11_wealth_1.2.1.1.1 ?_
          refine rn_aload_n (q := 0) 0 rfl zd_X11_wealth_1.2.1.1.2 ?_
          refine rn_getR zf_X11_26 (Or.inl ⟨_, rfl⟩) k_a0 (zx_11_2 hW k_a0) zd_X11_wealth_1.2.1.2.1 ?_
          refine rn_iload_n (q := 1) 1 rfl zd_X11_wealth_1.2.1.2.2 ?_
          refine rn_iload_n (q := 2) 2 rfl zd_X11_wealth_1.2.2.1.1 ?_
          refine rn_iload_n (q := 3) 3 rfl zd_X11_wealth_1.2.2.1.2 ?_
          obtain ⟨r11, M12, L13, h14, h⟩ := zbd3_e h
          refine rn_callVi (As := [.ref (R a0 8), .ref (R a0 2), .int x1, .int x2, .int x3]) (rest := []) zl_X11_214 zm_X0_lessPaid ⟨by decide, by decide⟩ (ci := 0) rfl rfl (by decide) (zw_11_5 hW k_a0) rfl rfl (Nat.le_of_ble_eq_true rfl) zd_X11_wealth_1.2.2.2.1 (ok_X0_lessPaid hW (zw_11_5 hW k_a0) (zw_11_8 hW k_a0) (zw_11_2 hW k_a0) h14) ?_
          cases h
          exact rn_iret zd_X11_wealth_1.2.2.2.2 rfl
        · refine rn_icmp_le_f (tgt := 41) hc10 zd_X11_wealth_1.1.1.2.1 rfl ?_
          refine rn_ldc (v := -1000000) zk_X11_213 zd_X11_wealth_1.1.1.2.2 ?_
          cases h
          exact rn_iret zd_X11_wealth_1.1.2.1.1 rfl
def n_X11_free (R : zR) (M : zM) (L : zL) (a0 : Nat) (x1 : Int32) (x2 : Int32) : Option (Int32 × zM × zL) :=
  zbd (f_X6_has M (R a0 2) x1) fun r1 =>
  if r1 = 0 then (
    some ((-1 : Int32), M, L)
  ) else (
    if x2 < 0 then (
      some ((-1 : Int32), M, L)
    ) else (
      if x2 ≤ (1 : Int32) then (
        zbd2 (n_X0_findLeastGift R M L (R a0 5) (R a0 8) (R a0 2) x1) fun M6 L7 =>
        if x2 = 0 then (
          some ((M6 (R a0 5) 1), M6, L7)
        ) else (
          some ((M6 (R a0 5) 2), M6, L7)
        )
      ) else (
        some ((-1 : Int32), M, L)
      )
    )
  )
set_option maxRecDepth 4000 in
theorem ok_X11_free {G : zG} {K : zK} {R : zR} {M : zM} {L : zL} (hW : zWT R K) {a0 : Nat} {x1 : Int32} {x2 : Int32} (k_a0 : K[a0]? = some (11, 11)) {r' : Int32} {M' : zM} {L' : zL} (h : n_X11_free R M L a0 x1 x2 = some (r', M', L')) : Rm G mt_X11_free [.ref a0, .int x1, .int x2] (M, L, R, K) (some (.int r')) (M', L', R, K) := by
  refine rm_rn rfl rfl (Nat.le_of_ble_eq_true rfl) ?_
  show Rn G mt_X11_free 0 [(0, .ref a0), (1, .int x1), (2, .int x2)] [] (M, L, R, K) (some (.int r')) (M', L', R, K)
  unfold n_X11_free at h
  refine rn_aload_n (q := 0) 0 rfl zd_X11_free_0.1.1.1.1 ?_
  refine rn_getR zf_X11_26 (Or.inl ⟨_, rfl⟩) k_a0 (zx_11_2 hW k_a0) zd_X11_free_0.1.1.1.2 ?_
  refine rn_iload_n (q := 1) 1 rfl zd_X11_free_0.1.1.2.1 ?_
  obtain ⟨r1, h2, h⟩ := zbd_e h
  refine rn_callVi (As := [.int x1]) (rest := []) zl_X11_104 zm_X6_has ⟨by decide, by decide⟩ (ci := 6) rfl rfl (by decide) (zw_11_2 hW k_a0) rfl rfl (Nat.le_of_ble_eq_true rfl) zd_X11_free_0.1.1.2.2 (ok_X6_has hW (zw_11_2 hW k_a0) h2) ?_
  rcases zif_e h with ⟨hc3, h⟩ | ⟨hc3, h⟩
  · refine rn_if_eq_t (tgt := 20) hc3 zd_X11_free_0.1.2.1.1 rfl ?_
    refine rn_iconst (v := -1) zd_X11_free_0.2.1.2.1 rfl ?_
    cases h
    exact rn_iret zd_X11_free_0.2.1.2.2 rfl
  · refine rn_if_eq_f (tgt := 20) hc3 zd_X11_free_0.1.2.1.1 rfl ?_
    refine rn_iload_n (q := 2) 2 rfl zd_X11_free_0.1.2.1.2 ?_
    rcases zif_e h with ⟨hc4, h⟩ | ⟨hc4, h⟩
    · refine rn_if_lt_t (tgt := 20) hc4 zd_X11_free_0.1.2.2.1 rfl ?_
      refine rn_iconst (v := -1) zd_X11_free_0.2.1.2.1 rfl ?_
      cases h
      exact rn_iret zd_X11_free_0.2.1.2.2 rfl
    · refine rn_if_lt_f (tgt := 20) hc4 zd_X11_free_0.1.2.2.1 rfl ?_
      refine rn_iload_n (q := 2) 2 rfl zd_X11_free_0.1.2.2.2 ?_
      refine rn_iconst (v := 1) zd_X11_free_0.2.1.1.1 rfl ?_
      rcases zif_e h with ⟨hc5, h⟩ | ⟨hc5, h⟩
      · refine rn_icmp_le_t (tgt := 22) hc5 zd_X11_free_0.2.1.1.2 rfl ?_
        refine rn_aload_n (q := 0) 0 rfl zd_X11_free_0.2.2.1.1 ?_
        refine rn_getR zf_X11_47 (Or.inl ⟨_, rfl⟩) k_a0 (zx_11_5 hW k_a0) zd_X11_free_0.2.2.1.2 ?_
        refine rn_aload_n (q := 0) 0 rfl zd_X11_free_0.2.2.2.1 ?_
        refine rn_getR zf_X11_68 (Or.inl ⟨_, rfl⟩) k_a0 (zx_11_8 hW k_a0) zd_X11_free_0.2.2.2.2 ?_
        refine rn_aload_n (q := 0) 0 rfl zd_X11_free_1.1.1.1 ?_
        refine rn_getR zf_X11_26 (Or.inl ⟨_, rfl⟩) k_a0 (zx_11_2 hW k_a0) zd_X11_free_1.1.1.2.1 ?_
        refine rn_iload_n (q := 1) 1 rfl zd_X11_free_1.1.1.2.2 ?_
        obtain ⟨M6, L7, h8, h⟩ := zbd2_e h
        refine rn_callVv (As := [.ref (R a0 8), .ref (R a0 2), .int x1]) (rest := []) zl_X11_218 zm_X0_findLeastGift ⟨by decide, by decide⟩ (ci := 0) rfl rfl (by decide) (zw_11_5 hW k_a0) rfl rfl (Nat.le_of_ble_eq_true rfl) zd_X11_free_1.1.2.1.1 (ok_X0_findLeastGift hW (zw_11_5 hW k_a0) (zw_11_8 hW k_a0) (zw_11_2 hW k_a0) h8) ?_
        refine rn_iload_n (q := 2) 2 rfl zd_X11_free_1.1.2.1.2 ?_
        rcases zif_e h with ⟨hc9, h⟩ | ⟨hc9, h⟩
        · refine rn_if_ne_f (tgt := 52) hc9 zd_X11_free_1.1.2.2.1 rfl ?_
          refine rn_aload_n (q := 0) 0 rfl zd_X11_free_1.1.2.2.2 ?_
          refine rn_getR zf_X11_47 (Or.inl ⟨_, rfl⟩) k_a0 (zx_11_5 hW k_a0) zd_X11_free_1.2.1.1 ?_
          refine rn_getI zf_X11_221 (Or.inl rfl) (zw_11_5 hW k_a0) zd_X11_free_1.2.1.2.1 ?_
          refine rn_goto (tgt := 59) zd_X11_free_1.2.1.2.2 rfl ?_
          cases h
          exact rn_iret zd_X11_free_1.2.2.2.2 rfl
        · refine rn_if_ne_t (tgt := 52) hc9 zd_X11_free_1.1.2.2.1 rfl ?_
          refine rn_aload_n (q := 0) 0 rfl zd_X11_free_1.2.2.1.1 ?_
          refine rn_getR zf_X11_47 (Or.inl ⟨_, rfl⟩) k_a0 (zx_11_5 hW k_a0) zd_X11_free_1.2.2.1.2 ?_
          refine rn_getI zf_X11_207 (Or.inl rfl) (zw_11_5 hW k_a0) zd_X11_free_1.2.2.2.1 ?_
          cases h
          exact rn_iret zd_X11_free_1.2.2.2.2 rfl
      · refine rn_icmp_le_f (tgt := 22) hc5 zd_X11_free_0.2.1.1.2 rfl ?_
        refine rn_iconst (v := -1) zd_X11_free_0.2.1.2.1 rfl ?_
        cases h
        exact rn_iret zd_X11_free_0.2.1.2.2 rfl
def f_X11_isUnit (x0 : Int32) : Option (Int32) :=
  if x0 < (1 : Int32) then (
    some (0 : Int32)
  ) else (
    if (999 : Int32) < x0 then (
      some (0 : Int32)
    ) else (
      some (1 : Int32)
    )
  )
set_option maxRecDepth 4000 in
theorem ok_X11_isUnit {G : zG} {K : zK} {R : zR} {M : zM} {L : zL} (hW : zWT R K) {x0 : Int32} {r' : Int32} (h : f_X11_isUnit x0 = some r') : Rm G mt_X11_isUnit [.int x0] (M, L, R, K) (some (.int r')) (M, L, R, K) := by
  refine rm_rn rfl rfl (Nat.le_of_ble_eq_true rfl) ?_
  show Rn G mt_X11_isUnit 0 [(0, .int x0)] [] (M, L, R, K) (some (.int r')) (M, L, R, K)
  unfold f_X11_isUnit at h
  refine rn_iload_n (q := 0) 0 rfl zd_X11_isUnit_0.1.1.1 ?_
  refine rn_iconst (v := 1) zd_X11_isUnit_0.1.1.2 rfl ?_
  rcases zif_e h with ⟨hc1, h⟩ | ⟨hc1, h⟩
  · refine rn_icmp_lt_t (tgt := 16) hc1 zd_X11_isUnit_0.1.2.1 rfl ?_
    refine rn_iconst (v := 0) zd_X11_isUnit_0.2.2.2.1 rfl ?_
    cases h
    exact rn_zret zd_X11_isUnit_0.2.2.2.2 rfl rfl
  · refine rn_icmp_lt_f (tgt := 16) hc1 zd_X11_isUnit_0.1.2.1 rfl ?_
    refine rn_iload_n (q := 0) 0 rfl zd_X11_isUnit_0.1.2.2.1 ?_
    refine rn_sipush (v := 999) zd_X11_isUnit_0.1.2.2.2 rfl ?_
    rcases zif_e h with ⟨hc2, h⟩ | ⟨hc2, h⟩
    · refine rn_icmp_gt_t (tgt := 16) hc2 zd_X11_isUnit_0.2.1.1 rfl ?_
      refine rn_iconst (v := 0) zd_X11_isUnit_0.2.2.2.1 rfl ?_
      cases h
      exact rn_zret zd_X11_isUnit_0.2.2.2.2 rfl rfl
    · refine rn_icmp_gt_f (tgt := 16) hc2 zd_X11_isUnit_0.2.1.1 rfl ?_
      refine rn_iconst (v := 1) zd_X11_isUnit_0.2.1.2 rfl ?_
      refine rn_goto (tgt := 17) zd_X11_isUnit_0.2.2.1 rfl ?_
      cases h
      exact rn_zret zd_X11_isUnit_0.2.2.2.2 rfl rfl
def n_X11_best (R : zR) (M : zM) (L : zL) (a0 : Nat) (x1 : Int32) (x2 : Int32) (x3 : Int32) (x4 : Int32) : Option (Int32 × zM × zL) :=
  zbd (f_X6_has M (R a0 2) x1) fun r1 =>
  if r1 = 0 then (
    some ((-1 : Int32), M, L)
  ) else (
    zbd (f_X11_isUnit x2) fun r4 =>
    if r4 = 0 then (
      some ((-1 : Int32), M, L)
    ) else (
      if x3 < (1 : Int32) then (
        some ((-1 : Int32), M, L)
      ) else (
        if x3 ≤ (30 : Int32) then (
          if x4 < 0 then (
            some ((-1 : Int32), M, L)
          ) else (
            if x4 ≤ (2 : Int32) then (
              zbd2 (n_X0_findBestGift R M L (R a0 5) (R a0 8) (R a0 2) x1 x2 x3) fun M11 L12 =>
              if x4 = 0 then (
                some ((M11 (R a0 5) 1), M11, L12)
              ) else (
                if x4 = (1 : Int32) then (
                  some ((M11 (R a0 5) 2), M11, L12)
                ) else (
                  some ((M11 (R a0 5) 3), M11, L12)
                )
              )
            ) else (
              some ((-1 : Int32), M, L)
            )
          )
        ) else (
          some ((-1 : Int32), M, L)
        )
      )
    )
  )
set_option maxRecDepth 4000 in
theorem ok_X11_best {G : zG} {K : zK} {R : zR} {M : zM} {L : zL} (hW : zWT R K) {a0 : Nat} {x1 : Int32} {x2 : Int32} {x3 : Int32} {x4 : Int32} (k_a0 : K[a0]? = some (11, 11)) {r' : Int32} {M' : zM} {L' : zL} (h : n_X11_best R M L a0 x1 x2 x3 x4 = some (r', M', L')) : Rm G mt_X11_best [.ref a0, .int x1, .int x2, .int x3, .int x4] (M, L, R, K) (some (.int r')) (M', L', R, K) := by
  refine rm_rn rfl rfl (Nat.le_of_ble_eq_true rfl) ?_
  show Rn G mt_X11_best 0 [(0, .ref a0), (1, .int x1), (2, .int x2), (3, .int x3), (4, .int x4)] [] (M, L, R, K) (some (.int r')) (M', L', R, K)
  unfold n_X11_best at h
  refine rn_aload_n (q := 0) 0 rfl zd_X11_best_0.1.1.1.1 ?_
  refine rn_getR zf_X11_26 (Or.inl ⟨_, rfl⟩) k_a0 (zx_11_2 hW k_a0) zd_X11_best_0.1.1.1.2 ?_
  refine rn_iload_n (q := 1) 1 rfl zd_X11_best_0.1.1.2.1 ?_
  obtain ⟨r1, h2, h⟩ := zbd_e h
  refine rn_callVi (As := [.int x1]) (rest := []) zl_X11_104 zm_X6_has ⟨by decide, by decide⟩ (ci := 6) rfl rfl (by decide) (zw_11_2 hW k_a0) rfl rfl (Nat.le_of_ble_eq_true rfl) zd_X11_best_0.1.1.2.2 (ok_X6_has hW (zw_11_2 hW k_a0) h2) ?_
  rcases zif_e h with ⟨hc3, h⟩ | ⟨hc3, h⟩
  · refine rn_if_eq_t (tgt := 29) hc3 zd_X11_best_0.1.2.1.1 rfl ?_
    refine rn_iconst (v := -1) zd_X11_best_0.2.2.2.1 rfl ?_
    cases h
    exact rn_iret zd_X11_best_0.2.2.2.2 rfl
  · refine rn_if_eq_f (tgt := 29) hc3 zd_X11_best_0.1.2.1.1 rfl ?_
    refine rn_iload_n (q := 2) 2 rfl zd_X11_best_0.1.2.1.2 ?_
    obtain ⟨r4, h5, h⟩ := zbd_e h
    refine rn_callSi (As := [.int x2]) (rest := []) zl_X11_224 zm_X11_isUnit ⟨by decide, by decide⟩ rfl rfl (Nat.le_of_ble_eq_true rfl) zd_X11_best_0.1.2.2.1 (ok_X11_isUnit hW h5) ?_
    rcases zif_e h with ⟨hc6, h⟩ | ⟨hc6, h⟩
    · refine rn_if_eq_t (tgt := 29) hc6 zd_X11_best_0.1.2.2.2 rfl ?_
      refine rn_iconst (v := -1) zd_X11_best_0.2.2.2.1 rfl ?_
      cases h
      exact rn_iret zd_X11_best_0.2.2.2.2 rfl
    · refine rn_if_eq_f (tgt := 29) hc6 zd_X11_best_0.1.2.2.2 rfl ?_
      refine rn_iload_n (q := 3) 3 rfl zd_X11_best_0.2.1.1.1 ?_
      refine rn_iconst (v := 1) zd_X11_best_0.2.1.1.2 rfl ?_
      rcases zif_e h with ⟨hc7, h⟩ | ⟨hc7, h⟩
      · refine rn_icmp_lt_t (tgt := 29) hc7 zd_X11_best_0.2.1.2.1 rfl ?_
        refine rn_iconst (v := -1) zd_X11_best_0.2.2.2.1 rfl ?_
        cases h
        exact rn_iret zd_X11_best_0.2.2.2.2 rfl
      · refine rn_icmp_lt_f (tgt := 29) hc7 zd_X11_best_0.2.1.2.1 rfl ?_
        refine rn_iload_n (q := 3) 3 rfl zd_X11_best_0.2.1.2.2 ?_
        refine rn_bipush (v := 30) zd_X11_best_0.2.2.1.1 rfl ?_
        rcases zif_e h with ⟨hc8, h⟩ | ⟨hc8, h⟩
        · refine rn_icmp_le_t (tgt := 31) hc8 zd_X11_best_0.2.2.1.2 rfl ?_
          refine rn_iload 4 rfl zd_X11_best_1.1.1.1.1 ?_
          rcases zif_e h with ⟨hc9, h⟩ | ⟨hc9, h⟩
          · refine rn_if_lt_t (tgt := 42) hc9 zd_X11_best_1.1.1.1.2 rfl ?_
            refine rn_iconst (v := -1) zd_X11_best_1.1.2.1.2 rfl ?_
            cases h
            exact rn_iret zd_X11_best_1.1.2.2.1 rfl
          · refine rn_if_lt_f (tgt := 42) hc9 zd_X11_best_1.1.1.1.2 rfl ?_
            refine rn_iload 4 rfl zd_X11_best_1.1.1.2.1 ?_
            refine rn_iconst (v := 2) zd_X11_best_1.1.1.2.2 rfl ?_
            rcases zif_e h with ⟨hc10, h⟩ | ⟨hc10, h⟩
            · refine rn_icmp_le_t (tgt := 44) hc10 zd_X11_best_1.1.2.1.1 rfl ?_
              refine rn_aload_n (q := 0) 0 rfl zd_X11_best_1.1.2.2.2 ?_
              refine rn_getR zf_X11_47 (Or.inl ⟨_, rfl⟩) k_a0 (zx_11_5 hW k_a0) zd_X11_best_1.2.1.1.1 ?_
              refine rn_aload_n (q := 0) 0 rfl zd_X11_best_1.2.1.1.2 ?_
              refine rn_getR zf_X11_68 (Or.inl ⟨_, rfl⟩) k_a0 (zx_11_8 hW k_a0) zd_X11_best_1.2.1.2.1 ?_
              refine rn_aload_n (q := 0) 0 rfl zd_X11_best_1.2.1.2.2 ?_
              refine rn_getR zf_X11_26 (Or.inl ⟨_, rfl⟩) k_a0 (zx_11_2 hW k_a0) zd_X11_best_1.2.2.1.1 ?_
              refine rn_iload_n (q := 1) 1 rfl zd_X11_best_1.2.2.1.2 ?_
              refine rn_iload_n (q := 2) 2 rfl zd_X11_best_1.2.2.2.1 ?_
              refine rn_iload_n (q := 3) 3 rfl zd_X11_best_1.2.2.2.2 ?_
              obtain ⟨M11, L12, h13, h⟩ := zbd2_e h
              refine rn_callVv (As := [.ref (R a0 8), .ref (R a0 2), .int x1, .int x2, .int x3]) (rest := []) zl_X11_227 zm_X0_findBestGift ⟨by decide, by decide⟩ (ci := 0) rfl rfl (by decide) (zw_11_5 hW k_a0) rfl rfl (Nat.le_of_ble_eq_true rfl) zd_X11_best_2.1.1.1.1 (ok_X0_findBestGift hW (zw_11_5 hW k_a0) (zw_11_8 hW k_a0) (zw_11_2 hW k_a0) h13) ?_
              refine rn_iload 4 rfl zd_X11_best_2.1.1.1.2 ?_
              rcases zif_e h with ⟨hc14, h⟩ | ⟨hc14, h⟩
              · refine rn_if_ne_f (tgt := 75) hc14 zd_X11_best_2.1.1.2.1 rfl ?_
                refine rn_aload_n (q := 0) 0 rfl zd_X11_best_2.1.1.2.2 ?_
                refine rn_getR zf_X11_47 (Or.inl ⟨_, rfl⟩) k_a0 (zx_11_5 hW k_a0) zd_X11_best_2.1.2.1.1 ?_
                refine rn_getI zf_X11_221 (Or.inl rfl) (zw_11_5 hW k_a0) zd_X11_best_2.1.2.1.2 ?_
                cases h
                exact rn_iret zd_X11_best_2.1.2.2.1 rfl
              · refine rn_if_ne_t (tgt := 75) hc14 zd_X11_best_2.1.1.2.1 rfl ?_
                refine rn_iload 4 rfl zd_X11_best_2.1.2.2.2 ?_
                refine rn_iconst (v := 1) zd_X11_best_2.2.1.1.1 rfl ?_
                rcases zif_e h with ⟨hc15, h⟩ | ⟨hc15, h⟩
                · refine rn_icmp_ne_f (tgt := 91) hc15 zd_X11_best_2.2.1.1.2 rfl ?_
                  refine rn_aload_n (q := 0) 0 rfl zd_X11_best_2.2.1.2.1 ?_
                  refine rn_getR zf_X11_47 (Or.inl ⟨_, rfl⟩) k_a0 (zx_11_5 hW k_a0) zd_X11_best_2.2.1.2.2 ?_
                  refine rn_getI zf_X11_207 (Or.inl rfl) (zw_11_5 hW k_a0) zd_X11_best_2.2.2.1.1 ?_
                  refine rn_goto (tgt := 98) zd_X11_best_2.2.2.1.2 rfl ?_
                  cases h
                  exact rn_iret zd_X11_best_3.2 rfl
                · refine rn_icmp_ne_t (tgt := 91) hc15 zd_X11_best_2.2.1.1.2 rfl ?_
                  refine rn_aload_n (q := 0) 0 rfl zd_X11_best_2.2.2.2.1 ?_
                  refine rn_getR zf_X11_47 (Or.inl ⟨_, rfl⟩) k_a0 (zx_11_5 hW k_a0) zd_X11_best_2.2.2.2.2 ?_
                  refine rn_getI zf_X11_210 (Or.inl rfl) (zw_11_5 hW k_a0) zd_X11_best_3.1 ?_
                  cases h
                  exact rn_iret zd_X11_best_3.2 rfl
            · refine rn_icmp_le_f (tgt := 44) hc10 zd_X11_best_1.1.2.1.1 rfl ?_
              refine rn_iconst (v := -1) zd_X11_best_1.1.2.1.2 rfl ?_
              cases h
              exact rn_iret zd_X11_best_1.1.2.2.1 rfl
        · refine rn_icmp_le_f (tgt := 31) hc8 zd_X11_best_0.2.2.1.2 rfl ?_
          refine rn_iconst (v := -1) zd_X11_best_0.2.2.2.1 rfl ?_
          cases h
          exact rn_iret zd_X11_best_0.2.2.2.2 rfl
def n_X11_loan (R : zR) (M : zM) (L : zL) (a0 : Nat) (x1 : Int32) (x2 : Int32) (x3 : Int32) (x4 : Int32) : Option (Int32 × zM × zL) :=
  zbd (f_X6_has M (R a0 2) x1) fun r1 =>
  if r1 = 0 then (
    some ((-1000000 : Int32), M, L)
  ) else (
    zbd (f_X6_has M (R a0 2) x2) fun r4 =>
    if r4 = 0 then (
      some ((-1000000 : Int32), M, L)
    ) else (
      if x1 = x2 then (
        some ((-1000000 : Int32), M, L)
      ) else (
        if x3 < (1 : Int32) then (
          some ((-1000000 : Int32), M, L)
        ) else (
          zbd (f_X6_shown R M (R a0 2) x1) fun r9 =>
          if x3 ≤ r9 then (
            zbd3 (n_X0_rate R M L (R a0 5) (R a0 8) (R a0 2) x1 x2 x3 x4) fun r12 M13 L14 =>
            some (r12, M13, L14)
          ) else (
            some ((-1000000 : Int32), M, L)
          )
        )
      )
    )
  )
set_option maxRecDepth 4000 in
theorem ok_X11_loan {G : zG} {K : zK} {R : zR} {M : zM} {L : zL} (hW : zWT R K) {a0 : Nat} {x1 : Int32} {x2 : Int32} {x3 : Int32} {x4 : Int32} (k_a0 : K[a0]? = some (11, 11)) {r' : Int32} {M' : zM} {L' : zL} (h : n_X11_loan R M L a0 x1 x2 x3 x4 = some (r', M', L')) : Rm G mt_X11_loan [.ref a0, .int x1, .int x2, .int x3, .int x4] (M, L, R, K) (some (.int r')) (M', L', R, K) := by
  refine rm_rn rfl rfl (Nat.le_of_ble_eq_true rfl) ?_
  show Rn G mt_X11_loan 0 [(0, .ref a0), (1, .int x1), (2, .int x2), (3, .int x3), (4, .int x4)] [] (M, L, R, K) (some (.int r')) (M', L', R, K)
  unfold n_X11_loan at h
  refine rn_aload_n (q := 0) 0 rfl zd_X11_loan_0.1.1.1.1 ?_
  refine rn_getR zf_X11_26 (Or.inl ⟨_, rfl⟩) k_a0 (zx_11_2 hW k_a0) zd_X11_loan_0.1.1.1.2 ?_
  refine rn_iload_n (q := 1) 1 rfl zd_X11_loan_0.1.1.2.1 ?_
  obtain ⟨r1, h2, h⟩ := zbd_e h
  refine rn_callVi (As := [.int x1]) (rest := []) zl_X11_104 zm_X6_has ⟨by decide, by decide⟩ (ci := 6) rfl rfl (by decide) (zw_11_2 hW k_a0) rfl rfl (Nat.le_of_ble_eq_true rfl) zd_X11_loan_0.1.1.2.2 (ok_X6_has hW (zw_11_2 hW k_a0) h2) ?_
  rcases zif_e h with ⟨hc3, h⟩ | ⟨hc3, h⟩
  · refine rn_if_eq_t (tgt := 27) hc3 zd_X11_loan_0.1.2.1.1 rfl ?_
    refine rn_ldc (v := -1000000) zk_X11_213 zd_X11_loan_0.2.2.1.2 ?_
    cases h
    exact rn_iret zd_X11_loan_0.2.2.2.1 rfl
  · refine rn_if_eq_f (tgt := 27) hc3 zd_X11_loan_0.1.2.1.1 rfl ?_
    refine rn_aload_n (q := 0) 0 rfl zd_X11_loan_0.1.2.1.2 ?_
    refine rn_getR zf_X11_26 (Or.inl ⟨_, rfl⟩) k_a0 (zx_11_2 hW k_a0) zd_X11_loan_0.1.2.2.1 ?_
    refine rn_iload_n (q := 2) 2 rfl zd_X11_loan_0.1.2.2.2 ?_
    obtain ⟨r4, h5, h⟩ := zbd_e h
    refine rn_callVi (As := [.int x2]) (rest := []) zl_X11_104 zm_X6_has ⟨by decide, by decide⟩ (ci := 6) rfl rfl (by decide) (zw_11_2 hW k_a0) rfl rfl (Nat.le_of_ble_eq_true rfl) zd_X11_loan_0.2.1.1.1 (ok_X6_has hW (zw_11_2 hW k_a0) h5) ?_
    rcases zif_e h with ⟨hc6, h⟩ | ⟨hc6, h⟩
    · refine rn_if_eq_t (tgt := 27) hc6 zd_X11_loan_0.2.1.1.2 rfl ?_
      refine rn_ldc (v := -1000000) zk_X11_213 zd_X11_loan_0.2.2.1.2 ?_
      cases h
      exact rn_iret zd_X11_loan_0.2.2.2.1 rfl
    · refine rn_if_eq_f (tgt := 27) hc6 zd_X11_loan_0.2.1.1.2 rfl ?_
      refine rn_iload_n (q := 1) 1 rfl zd_X11_loan_0.2.1.2.1 ?_
      refine rn_iload_n (q := 2) 2 rfl zd_X11_loan_0.2.1.2.2 ?_
      rcases zif_e h with ⟨hc7, h⟩ | ⟨hc7, h⟩
      · refine rn_icmp_ne_f (tgt := 30) hc7 zd_X11_loan_0.2.2.1.1 rfl ?_
        refine rn_ldc (v := -1000000) zk_X11_213 zd_X11_loan_0.2.2.1.2 ?_
        cases h
        exact rn_iret zd_X11_loan_0.2.2.2.1 rfl
      · refine rn_icmp_ne_t (tgt := 30) hc7 zd_X11_loan_0.2.2.1.1 rfl ?_
        refine rn_iload_n (q := 3) 3 rfl zd_X11_loan_0.2.2.2.2 ?_
        refine rn_iconst (v := 1) zd_X11_loan_1.1.1.1.1 rfl ?_
        rcases zif_e h with ⟨hc8, h⟩ | ⟨hc8, h⟩
        · refine rn_icmp_lt_t (tgt := 47) hc8 zd_X11_loan_1.1.1.1.2 rfl ?_
          refine rn_ldc (v := -1000000) zk_X11_213 zd_X11_loan_1.2.1.1.1 ?_
          cases h
          exact rn_iret zd_X11_loan_1.2.1.1.2 rfl
        · refine rn_icmp_lt_f (tgt := 47) hc8 zd_X11_loan_1.1.1.1.2 rfl ?_
          refine rn_iload_n (q := 3) 3 rfl zd_X11_loan_1.1.1.2.1 ?_
          refine rn_aload_n (q := 0) 0 rfl zd_X11_loan_1.1.1.2.2 ?_
          refine rn_getR zf_X11_26 (Or.inl ⟨_, rfl⟩) k_a0 (zx_11_2 hW k_a0) zd_X11_loan_1.1.2.1.1 ?_
          refine rn_iload_n (q := 1) 1 rfl zd_X11_loan_1.1.2.1.2 ?_
          obtain ⟨r9, h10, h⟩ := zbd_e h
          refine rn_callVi (As := [.int x1]) (rest := [.int x3]) zl_X11_115 zm_X6_shown ⟨by decide, by decide⟩ (ci := 6) rfl rfl (by decide) (zw_11_2 hW k_a0) rfl rfl (Nat.le_of_ble_eq_true rfl) zd_X11_loan_1.1.2.2.1 (ok_X6_shown hW (zw_11_2 hW k_a0) h10) ?_
          rcases zif_e h with ⟨hc11, h⟩ | ⟨hc11, h⟩
          · refine rn_icmp_le_t (tgt := 50) hc11 zd_X11_loan_1.1.2.2.2 rfl ?_
            refine rn_aload_n (q := 0) 0 rfl zd_X11_loan_1.2.1.2.1 ?_
            refine rn_getR zf_X11_47 (Or.inl ⟨_, rfl⟩) k_a0 (zx_11_5 hW k_a0) zd_X11_loan_1.2.1.2.2 ?_
            refine rn_aload_n (q := 0) 0 rfl zd_X11_loan_1.2.2.1.1 ?_
            refine rn_getR zf_X11_68 (Or.inl ⟨_, rfl⟩) k_a0 (zx_11_8 hW k_a0) zd_X11_loan_1.2.2.1.2 ?_
            refine rn_aload_n (q := 0) 0 rfl zd_X11_loan_1.2.2.2.1 ?_
            refine rn_getR zf_X11_26 (Or.inl ⟨_, rfl⟩) k_a0 (zx_11_2 hW k_a0) zd_X11_loan_1.2.2.2.2 ?_
            refine rn_iload_n (q := 1) 1 rfl zd_X11_loan_2.1.1 ?_
            refine rn_iload_n (q := 2) 2 rfl zd_X11_loan_2.1.2.1 ?_
            refine rn_iload_n (q := 3) 3 rfl zd_X11_loan_2.1.2.2 ?_
            refine rn_iload 4 rfl zd_X11_loan_2.2.1 ?_
            obtain ⟨r12, M13, L14, h15, h⟩ := zbd3_e h
            refine rn_callVi (As := [.ref (R a0 8), .ref (R a0 2), .int x1, .int x2, .int x3, .int x4]) (rest := []) zl_X11_231 zm_X0_rate ⟨by decide, by decide⟩ (ci := 0) rfl rfl (by decide) (zw_11_5 hW k_a0) rfl rfl (Nat.le_of_ble_eq_true rfl) zd_X11_loan_2.2.2.1 (ok_X0_rate hW (zw_11_5 hW k_a0) (zw_11_8 hW k_a0) (zw_11_2 hW k_a0) h15) ?_
            cases h
            exact rn_iret zd_X11_loan_2.2.2.2 rfl
          · refine rn_icmp_le_f (tgt := 50) hc11 zd_X11_loan_1.1.2.2.2 rfl ?_
            refine rn_ldc (v := -1000000) zk_X11_213 zd_X11_loan_1.2.1.1.1 ?_
            cases h
            exact rn_iret zd_X11_loan_1.2.1.1.2 rfl
def n_X11_site (R : zR) (M : zM) (L : zL) (a0 : Nat) (x1 : Int32) : Option (Int32 × zM × zL) :=
  zbd (f_X11_isPurse x1) fun r1 =>
  if r1 = 0 then (
    some ((-1 : Int32), M, L)
  ) else (
    zbd (f_X6_isFull M (R a0 2)) fun r4 =>
    if r4 = 0 then (
      zbd3 (n_X0_bestSite R M L (R a0 5) (R a0 8) (R a0 2) x1) fun r7 M8 L9 =>
      some (r7, M8, L9)
    ) else (
      some ((-2 : Int32), M, L)
    )
  )
set_option maxRecDepth 4000 in
theorem ok_X11_site {G : zG} {K : zK} {R : zR} {M : zM} {L : zL} (hW : zWT R K) {a0 : Nat} {x1 : Int32} (k_a0 : K[a0]? = some (11, 11)) {r' : Int32} {M' : zM} {L' : zL} (h : n_X11_site R M L a0 x1 = some (r', M', L')) : Rm G mt_X11_site [.ref a0, .int x1] (M, L, R, K) (some (.int r')) (M', L', R, K) := by
  refine rm_rn rfl rfl (Nat.le_of_ble_eq_true rfl) ?_
  show Rn G mt_X11_site 0 [(0, .ref a0), (1, .int x1)] [] (M, L, R, K) (some (.int r')) (M', L', R, K)
  unfold n_X11_site at h
  refine rn_iload_n (q := 1) 1 rfl zd_X11_site_0.1.1.1.1 ?_
  obtain ⟨r1, h2, h⟩ := zbd_e h
  refine rn_callSi (As := [.int x1]) (rest := []) zl_X11_164 zm_X11_isPurse ⟨by decide, by decide⟩ rfl rfl (Nat.le_of_ble_eq_true rfl) zd_X11_site_0.1.1.1.2 (ok_X11_isPurse hW h2) ?_
  rcases zif_e h with ⟨hc3, h⟩ | ⟨hc3, h⟩
  · refine rn_if_ne_f (tgt := 9) hc3 zd_X11_site_0.1.1.2.1 rfl ?_
    refine rn_iconst (v := -1) zd_X11_site_0.1.1.2.2 rfl ?_
    cases h
    exact rn_iret zd_X11_site_0.1.2.1.1 rfl
  · refine rn_if_ne_t (tgt := 9) hc3 zd_X11_site_0.1.1.2.1 rfl ?_
    refine rn_aload_n (q := 0) 0 rfl zd_X11_site_0.1.2.1.2 ?_
    refine rn_getR zf_X11_26 (Or.inl ⟨_, rfl⟩) k_a0 (zx_11_2 hW k_a0) zd_X11_site_0.1.2.2.1 ?_
    obtain ⟨r4, h5, h⟩ := zbd_e h
    refine rn_callVi (As := []) (rest := []) zl_X11_160 zm_X6_isFull ⟨by decide, by decide⟩ (ci := 6) rfl rfl (by decide) (zw_11_2 hW k_a0) rfl rfl (Nat.le_of_ble_eq_true rfl) zd_X11_site_0.1.2.2.2 (ok_X6_isFull hW (zw_11_2 hW k_a0) h5) ?_
    rcases zif_e h with ⟨hc6, h⟩ | ⟨hc6, h⟩
    · refine rn_if_eq_t (tgt := 22) hc6 zd_X11_site_0.2.1.1.1 rfl ?_
      refine rn_aload_n (q := 0) 0 rfl zd_X11_site_0.2.1.2.2 ?_
      refine rn_getR zf_X11_47 (Or.inl ⟨_, rfl⟩) k_a0 (zx_11_5 hW k_a0) zd_X11_site_0.2.2.1.1 ?_
      refine rn_aload_n (q := 0) 0 rfl zd_X11_site_0.2.2.1.2 ?_
      refine rn_getR zf_X11_68 (Or.inl ⟨_, rfl⟩) k_a0 (zx_11_8 hW k_a0) zd_X11_site_0.2.2.2.1 ?_
      refine rn_aload_n (q := 0) 0 rfl zd_X11_site_0.2.2.2.2 ?_
      refine rn_getR zf_X11_26 (Or.inl ⟨_, rfl⟩) k_a0 (zx_11_2 hW k_a0) zd_X11_site_1.1.1 ?_
      refine rn_iload_n (q := 1) 1 rfl zd_X11_site_1.1.2 ?_
      obtain ⟨r7, M8, L9, h10, h⟩ := zbd3_e h
      refine rn_callVi (As := [.ref (R a0 8), .ref (R a0 2), .int x1]) (rest := []) zl_X11_235 zm_X0_bestSite ⟨by decide, by decide⟩ (ci := 0) rfl rfl (by decide) (zw_11_5 hW k_a0) rfl rfl (Nat.le_of_ble_eq_true rfl) zd_X11_site_1.2.1 (ok_X0_bestSite hW (zw_11_5 hW k_a0) (zw_11_8 hW k_a0) (zw_11_2 hW k_a0) h10) ?_
      cases h
      exact rn_iret zd_X11_site_1.2.2 rfl
    · refine rn_if_eq_f (tgt := 22) hc6 zd_X11_site_0.2.1.1.1 rfl ?_
      refine rn_bipush (v := -2) zd_X11_site_0.2.1.1.2 rfl ?_
      cases h
      exact rn_iret zd_X11_site_0.2.1.2.1 rfl
def n_X11_rests (R : zR) (M : zM) (L : zL) (a0 : Nat) (x1 : Int32) (x2 : Int32) : Option (Int32 × zM × zL) :=
  zbd (f_X11_isUnit x1) fun r1 =>
  if r1 = 0 then (
    some ((-1 : Int32), M, L)
  ) else (
    if (-1 : Int32) ≤ x2 then (
      if (M (R a0 2) 4) ≤ (8 : Int32) then (
        zbd3 (n_X4_restAt R M L (R a0 6) (R a0 8) (R a0 2) x1 x2) fun r6 M7 L8 =>
        some (r6, M7, L8)
      ) else (
        some ((-2 : Int32), M, L)
      )
    ) else (
      some ((-1 : Int32), M, L)
    )
  )
set_option maxRecDepth 4000 in
theorem ok_X11_rests {G : zG} {K : zK} {R : zR} {M : zM} {L : zL} (hW : zWT R K) {a0 : Nat} {x1 : Int32} {x2 : Int32} (k_a0 : K[a0]? = some (11, 11)) {r' : Int32} {M' : zM} {L' : zL} (h : n_X11_rests R M L a0 x1 x2 = some (r', M', L')) : Rm G mt_X11_rests [.ref a0, .int x1, .int x2] (M, L, R, K) (some (.int r')) (M', L', R, K) := by
  refine rm_rn rfl rfl (Nat.le_of_ble_eq_true rfl) ?_
  show Rn G mt_X11_rests 0 [(0, .ref a0), (1, .int x1), (2, .int x2)] [] (M, L, R, K) (some (.int r')) (M', L', R, K)
  unfold n_X11_rests at h
  refine rn_iload_n (q := 1) 1 rfl zd_X11_rests_0.1.1.1.1 ?_
  obtain ⟨r1, h2, h⟩ := zbd_e h
  refine rn_callSi (As := [.int x1]) (rest := []) zl_X11_224 zm_X11_isUnit ⟨by decide, by decide⟩ rfl rfl (Nat.le_of_ble_eq_true rfl) zd_X11_rests_0.1.1.1.2 (ok_X11_isUnit hW h2) ?_
  rcases zif_e h with ⟨hc3, h⟩ | ⟨hc3, h⟩
  · refine rn_if_eq_t (tgt := 12) hc3 zd_X11_rests_0.1.1.2.1 rfl ?_
    refine rn_iconst (v := -1) zd_X11_rests_0.1.2.2.1 rfl ?_
    cases h
    exact rn_iret zd_X11_rests_0.1.2.2.2 rfl
  · refine rn_if_eq_f (tgt := 12) hc3 zd_X11_rests_0.1.1.2.1 rfl ?_
    refine rn_iload_n (q := 2) 2 rfl zd_X11_rests_0.1.1.2.2 ?_
    refine rn_iconst (v := -1) zd_X11_rests_0.1.2.1.1 rfl ?_
    rcases zif_e h with ⟨hc4, h⟩ | ⟨hc4, h⟩
    · refine rn_icmp_ge_t (tgt := 14) hc4 zd_X11_rests_0.1.2.1.2 rfl ?_
      refine rn_aload_n (q := 0) 0 rfl zd_X11_rests_0.2.1.1.1 ?_
      refine rn_getR zf_X11_26 (Or.inl ⟨_, rfl⟩) k_a0 (zx_11_2 hW k_a0) zd_X11_rests_0.2.1.1.2 ?_
      refine rn_getI zf_X11_157 (Or.inl rfl) (zw_11_2 hW k_a0) zd_X11_rests_0.2.1.2.1 ?_
      refine rn_bipush (v := 8) zd_X11_rests_0.2.1.2.2 rfl ?_
      rcases zif_e h with ⟨hc5, h⟩ | ⟨hc5, h⟩
      · refine rn_icmp_le_t (tgt := 29) hc5 zd_X11_rests_0.2.2.1.1 rfl ?_
        refine rn_aload_n (q := 0) 0 rfl zd_X11_rests_0.2.2.2.2 ?_
        refine rn_getR zf_X11_54 (Or.inl ⟨_, rfl⟩) k_a0 (zx_11_6 hW k_a0) zd_X11_rests_1.1.1.1 ?_
        refine rn_aload_n (q := 0) 0 rfl zd_X11_rests_1.1.1.2 ?_
        refine rn_getR zf_X11_68 (Or.inl ⟨_, rfl⟩) k_a0 (zx_11_8 hW k_a0) zd_X11_rests_1.1.2.1 ?_
        refine rn_aload_n (q := 0) 0 rfl zd_X11_rests_1.1.2.2 ?_
        refine rn_getR zf_X11_26 (Or.inl ⟨_, rfl⟩) k_a0 (zx_11_2 hW k_a0) zd_X11_rests_1.2.1.1 ?_
        refine rn_iload_n (q := 1) 1 rfl zd_X11_rests_1.2.1.2 ?_
        refine rn_iload_n (q := 2) 2 rfl zd_X11_rests_1.2.2.1 ?_
        obtain ⟨r6, M7, L8, h9, h⟩ := zbd3_e h
        refine rn_callVi (As := [.ref (R a0 8), .ref (R a0 2), .int x1, .int x2]) (rest := []) zl_X11_238 zm_X4_restAt ⟨by decide, by decide⟩ (ci := 4) rfl rfl (by decide) (zw_11_6 hW k_a0) rfl rfl (Nat.le_of_ble_eq_true rfl) zd_X11_rests_1.2.2.2.1 (ok_X4_restAt hW (zw_11_6 hW k_a0) (zw_11_8 hW k_a0) (zw_11_2 hW k_a0) h9) ?_
        cases h
        exact rn_iret zd_X11_rests_1.2.2.2.2 rfl
      · refine rn_icmp_le_f (tgt := 29) hc5 zd_X11_rests_0.2.2.1.1 rfl ?_
        refine rn_bipush (v := -2) zd_X11_rests_0.2.2.1.2 rfl ?_
        cases h
        exact rn_iret zd_X11_rests_0.2.2.2.1 rfl
    · refine rn_icmp_ge_f (tgt := 14) hc4 zd_X11_rests_0.1.2.1.2 rfl ?_
      refine rn_iconst (v := -1) zd_X11_rests_0.1.2.2.1 rfl ?_
      cases h
      exact rn_iret zd_X11_rests_0.1.2.2.2 rfl
def f_X11_tell (R : zR) (M : zM) (a0 : Nat) (x1 : Int32) (x2 : Int32) : Option (Int32 × zM) :=
  zbd (f_X6_has M (R a0 2) x1) fun r1 =>
  if r1 = 0 then (
    some ((-1 : Int32), M)
  ) else (
    if x2 < 0 then (
      some ((-1 : Int32), M)
    ) else (
      if x2 ≤ (9999 : Int32) then (
        zbd2 (f_X10_add R M (R a0 7) x1 x2) fun r6 M7 =>
        some (r6, M7)
      ) else (
        some ((-1 : Int32), M)
      )
    )
  )
set_option maxRecDepth 4000 in
theorem ok_X11_tell {G : zG} {K : zK} {R : zR} {M : zM} {L : zL} (hW : zWT R K) {a0 : Nat} {x1 : Int32} {x2 : Int32} (k_a0 : K[a0]? = some (11, 11)) {r' : Int32} {M' : zM} (h : f_X11_tell R M a0 x1 x2 = some (r', M')) : Rm G mt_X11_tell [.ref a0, .int x1, .int x2] (M, L, R, K) (some (.int r')) (M', L, R, K) := by
  refine rm_rn rfl rfl (Nat.le_of_ble_eq_true rfl) ?_
  show Rn G mt_X11_tell 0 [(0, .ref a0), (1, .int x1), (2, .int x2)] [] (M, L, R, K) (some (.int r')) (M', L, R, K)
  unfold f_X11_tell at h
  refine rn_aload_n (q := 0) 0 rfl zd_X11_tell_0.1.1.1.1 ?_
  refine rn_getR zf_X11_26 (Or.inl ⟨_, rfl⟩) k_a0 (zx_11_2 hW k_a0) zd_X11_tell_0.1.1.1.2 ?_
  refine rn_iload_n (q := 1) 1 rfl zd_X11_tell_0.1.1.2.1 ?_
  obtain ⟨r1, h2, h⟩ := zbd_e h
  refine rn_callVi (As := [.int x1]) (rest := []) zl_X11_104 zm_X6_has ⟨by decide, by decide⟩ (ci := 6) rfl rfl (by decide) (zw_11_2 hW k_a0) rfl rfl (Nat.le_of_ble_eq_true rfl) zd_X11_tell_0.1.1.2.2 (ok_X6_has hW (zw_11_2 hW k_a0) h2) ?_
  rcases zif_e h with ⟨hc3, h⟩ | ⟨hc3, h⟩
  · refine rn_if_eq_t (tgt := 22) hc3 zd_X11_tell_0.1.2.1.1 rfl ?_
    refine rn_iconst (v := -1) zd_X11_tell_0.2.1.2.1 rfl ?_
    cases h
    exact rn_iret zd_X11_tell_0.2.1.2.2 rfl
  · refine rn_if_eq_f (tgt := 22) hc3 zd_X11_tell_0.1.2.1.1 rfl ?_
    refine rn_iload_n (q := 2) 2 rfl zd_X11_tell_0.1.2.1.2 ?_
    rcases zif_e h with ⟨hc4, h⟩ | ⟨hc4, h⟩
    · refine rn_if_lt_t (tgt := 22) hc4 zd_X11_tell_0.1.2.2.1 rfl ?_
      refine rn_iconst (v := -1) zd_X11_tell_0.2.1.2.1 rfl ?_
      cases h
      exact rn_iret zd_X11_tell_0.2.1.2.2 rfl
    · refine rn_if_lt_f (tgt := 22) hc4 zd_X11_tell_0.1.2.2.1 rfl ?_
      refine rn_iload_n (q := 2) 2 rfl zd_X11_tell_0.1.2.2.2 ?_
      refine rn_sipush (v := 9999) zd_X11_tell_0.2.1.1.1 rfl ?_
      rcases zif_e h with ⟨hc5, h⟩ | ⟨hc5, h⟩
      · refine rn_icmp_le_t (tgt := 24) hc5 zd_X11_tell_0.2.1.1.2 rfl ?_
        refine rn_aload_n (q := 0) 0 rfl zd_X11_tell_0.2.2.1.1 ?_
        refine rn_getR zf_X11_61 (Or.inl ⟨_, rfl⟩) k_a0 (zx_11_7 hW k_a0) zd_X11_tell_0.2.2.1.2 ?_
        refine rn_iload_n (q := 1) 1 rfl zd_X11_tell_0.2.2.2.1 ?_
        refine rn_iload_n (q := 2) 2 rfl zd_X11_tell_0.2.2.2.2 ?_
        obtain ⟨r6, M7, h8, h⟩ := zbd2_e h
        refine rn_callVi (As := [.int x1, .int x2]) (rest := []) zl_X11_241 zm_X10_add ⟨by decide, by decide⟩ (ci := 10) rfl rfl (by decide) (zw_11_7 hW k_a0) rfl rfl (Nat.le_of_ble_eq_true rfl) zd_X11_tell_1.1 (ok_X10_add hW (zw_11_7 hW k_a0) h8) ?_
        cases h
        exact rn_iret zd_X11_tell_1.2 rfl
      · refine rn_icmp_le_f (tgt := 24) hc5 zd_X11_tell_0.2.1.1.2 rfl ?_
        refine rn_iconst (v := -1) zd_X11_tell_0.2.1.2.1 rfl ?_
        cases h
        exact rn_iret zd_X11_tell_0.2.1.2.2 rfl
def f_X11_forget (R : zR) (M : zM) (a0 : Nat) : Option (Int32 × zM) :=
  zbd (f_X10_clear M (R a0 7)) fun M1 =>
  some ((M (R a0 7) 6), M1)
set_option maxRecDepth 4000 in
theorem ok_X11_forget {G : zG} {K : zK} {R : zR} {M : zM} {L : zL} (hW : zWT R K) {a0 : Nat} (k_a0 : K[a0]? = some (11, 11)) {r' : Int32} {M' : zM} (h : f_X11_forget R M a0 = some (r', M')) : Rm G mt_X11_forget [.ref a0] (M, L, R, K) (some (.int r')) (M', L, R, K) := by
  refine rm_rn rfl rfl (Nat.le_of_ble_eq_true rfl) ?_
  show Rn G mt_X11_forget 0 [(0, .ref a0)] [] (M, L, R, K) (some (.int r')) (M', L, R, K)
  unfold f_X11_forget at h
  refine rn_aload_n (q := 0) 0 rfl zd_X11_forget_0.1.1.1 ?_
  refine rn_getR zf_X11_61 (Or.inl ⟨_, rfl⟩) k_a0 (zx_11_7 hW k_a0) zd_X11_forget_0.1.1.2 ?_
  refine rn_getI zf_X11_245 (Or.inl rfl) (zw_11_7 hW k_a0) zd_X11_forget_0.1.2.1 ?_
  refine rn_istore_n (q := 1) (ls' := [(1, .int (M (R a0 7) 6)), (0, .ref a0)]) (by decide) rfl zd_X11_forget_0.1.2.2 ?_
  refine rn_aload_n (q := 0) 1 rfl zd_X11_forget_0.2.1.1 ?_
  refine rn_getR zf_X11_61 (Or.inl ⟨_, rfl⟩) k_a0 (zx_11_7 hW k_a0) zd_X11_forget_0.2.1.2 ?_
  obtain ⟨M1, h2, h⟩ := zbd_e h
  refine rn_callVv (As := []) (rest := []) zl_X11_103 zm_X10_clear ⟨by decide, by decide⟩ (ci := 10) rfl rfl (by decide) (zw_11_7 hW k_a0) rfl rfl (Nat.le_of_ble_eq_true rfl) zd_X11_forget_0.2.2.1 (ok_X10_clear hW (zw_11_7 hW k_a0) h2) ?_
  refine rn_iload_n (q := 1) 0 rfl zd_X11_forget_0.2.2.2.1 ?_
  cases h
  exact rn_iret zd_X11_forget_0.2.2.2.2 rfl
def f_X11_isInRow (x0 : Int32) : Option (Int32) :=
  if x0 < (1 : Int32) then (
    some (0 : Int32)
  ) else (
    if (20 : Int32) < x0 then (
      some (0 : Int32)
    ) else (
      some (1 : Int32)
    )
  )
set_option maxRecDepth 4000 in
theorem ok_X11_isInRow {G : zG} {K : zK} {R : zR} {M : zM} {L : zL} (hW : zWT R K) {x0 : Int32} {r' : Int32} (h : f_X11_isInRow x0 = some r') : Rm G mt_X11_isInRow [.int x0] (M, L, R, K) (some (.int r')) (M, L, R, K) := by
  refine rm_rn rfl rfl (Nat.le_of_ble_eq_true rfl) ?_
  show Rn G mt_X11_isInRow 0 [(0, .int x0)] [] (M, L, R, K) (some (.int r')) (M, L, R, K)
  unfold f_X11_isInRow at h
  refine rn_iload_n (q := 0) 0 rfl zd_X11_isInRow_0.1.1.1 ?_
  refine rn_iconst (v := 1) zd_X11_isInRow_0.1.1.2 rfl ?_
  rcases zif_e h with ⟨hc1, h⟩ | ⟨hc1, h⟩
  · refine rn_icmp_lt_t (tgt := 15) hc1 zd_X11_isInRow_0.1.2.1 rfl ?_
    refine rn_iconst (v := 0) zd_X11_isInRow_0.2.2.2.1 rfl ?_
    cases h
    exact rn_zret zd_X11_isInRow_0.2.2.2.2 rfl rfl
  · refine rn_icmp_lt_f (tgt := 15) hc1 zd_X11_isInRow_0.1.2.1 rfl ?_
    refine rn_iload_n (q := 0) 0 rfl zd_X11_isInRow_0.1.2.2.1 ?_
    refine rn_bipush (v := 20) zd_X11_isInRow_0.1.2.2.2 rfl ?_
    rcases zif_e h with ⟨hc2, h⟩ | ⟨hc2, h⟩
    · refine rn_icmp_gt_t (tgt := 15) hc2 zd_X11_isInRow_0.2.1.1 rfl ?_
      refine rn_iconst (v := 0) zd_X11_isInRow_0.2.2.2.1 rfl ?_
      cases h
      exact rn_zret zd_X11_isInRow_0.2.2.2.2 rfl rfl
    · refine rn_icmp_gt_f (tgt := 15) hc2 zd_X11_isInRow_0.2.1.1 rfl ?_
      refine rn_iconst (v := 1) zd_X11_isInRow_0.2.1.2 rfl ?_
      refine rn_goto (tgt := 16) zd_X11_isInRow_0.2.2.1 rfl ?_
      cases h
      exact rn_zret zd_X11_isInRow_0.2.2.2.2 rfl rfl
def n_X11_fits (R : zR) (M : zM) (L : zL) (a0 : Nat) (x1 : Int32) (x2 : Int32) : Option (Int32 × zM × zL) :=
  zbd (f_X11_isInRow x1) fun r1 =>
  if r1 = 0 then (
    some ((-1 : Int32), M, L)
  ) else (
    if x2 < 0 then (
      some ((-1 : Int32), M, L)
    ) else (
      if x2 ≤ (M (R a0 7) 6) then (
        zbd (f_X10_rowsUpTo (R a0 7) x1 (M (R a0 2) 4)) fun r6 =>
        if r6 ≤ (200000 : Int32) then (
          zbd2 (n_X10_goThroughFits R M L (R a0 7) (R a0 8) (R a0 2) x1 x2 (0 : Int32)) fun M9 L10 =>
          some ((M9 (R a0 7) 8), M9, L10)
        ) else (
          some ((-2 : Int32), M, L)
        )
      ) else (
        some ((-1 : Int32), M, L)
      )
    )
  )
set_option maxRecDepth 4000 in
theorem ok_X11_fits {G : zG} {K : zK} {R : zR} {M : zM} {L : zL} (hW : zWT R K) {a0 : Nat} {x1 : Int32} {x2 : Int32} (k_a0 : K[a0]? = some (11, 11)) {r' : Int32} {M' : zM} {L' : zL} (h : n_X11_fits R M L a0 x1 x2 = some (r', M', L')) : Rm G mt_X11_fits [.ref a0, .int x1, .int x2] (M, L, R, K) (some (.int r')) (M', L', R, K) := by
  refine rm_rn rfl rfl (Nat.le_of_ble_eq_true rfl) ?_
  show Rn G mt_X11_fits 0 [(0, .ref a0), (1, .int x1), (2, .int x2)] [] (M, L, R, K) (some (.int r')) (M', L', R, K)
  unfold n_X11_fits at h
  refine rn_iload_n (q := 1) 1 rfl zd_X11_fits_0.1.1.1.1 ?_
  obtain ⟨r1, h2, h⟩ := zbd_e h
  refine rn_callSi (As := [.int x1]) (rest := []) zl_X11_248 zm_X11_isInRow ⟨by decide, by decide⟩ rfl rfl (Nat.le_of_ble_eq_true rfl) zd_X11_fits_0.1.1.1.2 (ok_X11_isInRow hW h2) ?_
  rcases zif_e h with ⟨hc3, h⟩ | ⟨hc3, h⟩
  · refine rn_if_eq_t (tgt := 22) hc3 zd_X11_fits_0.1.1.2.1 rfl ?_
    refine rn_iconst (v := -1) zd_X11_fits_0.2.1.2.1 rfl ?_
    cases h
    exact rn_iret zd_X11_fits_0.2.1.2.2 rfl
  · refine rn_if_eq_f (tgt := 22) hc3 zd_X11_fits_0.1.1.2.1 rfl ?_
    refine rn_iload_n (q := 2) 2 rfl zd_X11_fits_0.1.1.2.2 ?_
    rcases zif_e h with ⟨hc4, h⟩ | ⟨hc4, h⟩
    · refine rn_if_lt_t (tgt := 22) hc4 zd_X11_fits_0.1.2.1.1 rfl ?_
      refine rn_iconst (v := -1) zd_X11_fits_0.2.1.2.1 rfl ?_
      cases h
      exact rn_iret zd_X11_fits_0.2.1.2.2 rfl
    · refine rn_if_lt_f (tgt := 22) hc4 zd_X11_fits_0.1.2.1.1 rfl ?_
      refine rn_iload_n (q := 2) 2 rfl zd_X11_fits_0.1.2.1.2 ?_
      refine rn_aload_n (q := 0) 0 rfl zd_X11_fits_0.1.2.2.1 ?_
      refine rn_getR zf_X11_61 (Or.inl ⟨_, rfl⟩) k_a0 (zx_11_7 hW k_a0) zd_X11_fits_0.1.2.2.2 ?_
      refine rn_getI zf_X11_245 (Or.inl rfl) (zw_11_7 hW k_a0) zd_X11_fits_0.2.1.1.1 ?_
      rcases zif_e h with ⟨hc5, h⟩ | ⟨hc5, h⟩
      · refine rn_icmp_le_t (tgt := 24) hc5 zd_X11_fits_0.2.1.1.2 rfl ?_
        refine rn_aload_n (q := 0) 0 rfl zd_X11_fits_0.2.2.1.1 ?_
        refine rn_getR zf_X11_61 (Or.inl ⟨_, rfl⟩) k_a0 (zx_11_7 hW k_a0) zd_X11_fits_0.2.2.1.2 ?_
        refine rn_iload_n (q := 1) 1 rfl zd_X11_fits_0.2.2.2.1 ?_
        refine rn_aload_n (q := 0) 0 rfl zd_X11_fits_0.2.2.2.2 ?_
        refine rn_getR zf_X11_26 (Or.inl ⟨_, rfl⟩) k_a0 (zx_11_2 hW k_a0) zd_X11_fits_1.1.1.1.1 ?_
        refine rn_getI zf_X11_157 (Or.inl rfl) (zw_11_2 hW k_a0) zd_X11_fits_1.1.1.1.2 ?_
        obtain ⟨r6, h7, h⟩ := zbd_e h
        refine rn_callVi (As := [.int x1, .int (M (R a0 2) 4)]) (rest := []) zl_X11_251 zm_X10_rowsUpTo ⟨by decide, by decide⟩ (ci := 10) rfl rfl (by decide) (zw_11_7 hW k_a0) rfl rfl (Nat.le_of_ble_eq_true rfl) zd_X11_fits_1.1.1.2.1 (ok_X10_rowsUpTo hW (zw_11_7 hW k_a0) h7) ?_
        refine rn_ldc (v := 200000) zk_X11_254 zd_X11_fits_1.1.1.2.2 ?_
        rcases zif_e h with ⟨hc8, h⟩ | ⟨hc8, h⟩
        · refine rn_icmp_le_t (tgt := 47) hc8 zd_X11_fits_1.1.2.1.1 rfl ?_
          refine rn_aload_n (q := 0) 0 rfl zd_X11_fits_1.1.2.2.2 ?_
          refine rn_getR zf_X11_61 (Or.inl ⟨_, rfl⟩) k_a0 (zx_11_7 hW k_a0) zd_X11_fits_1.2.1.1.1 ?_
          refine rn_aload_n (q := 0) 0 rfl zd_X11_fits_1.2.1.1.2 ?_
          refine rn_getR zf_X11_68 (Or.inl ⟨_, rfl⟩) k_a0 (zx_11_8 hW k_a0) zd_X11_fits_1.2.1.2.1 ?_
          refine rn_aload_n (q := 0) 0 rfl zd_X11_fits_1.2.1.2.2 ?_
          refine rn_getR zf_X11_26 (Or.inl ⟨_, rfl⟩) k_a0 (zx_11_2 hW k_a0) zd_X11_fits_1.2.2.1.1 ?_
          refine rn_iload_n (q := 1) 1 rfl zd_X11_fits_1.2.2.1.2 ?_
          refine rn_iload_n (q := 2) 2 rfl zd_X11_fits_1.2.2.2.1 ?_
          refine rn_iconst (v := 0) zd_X11_fits_1.2.2.2.2 rfl ?_
          obtain ⟨M9, L10, h11, h⟩ := zbd2_e h
          refine rn_callVv (As := [.ref (R a0 8), .ref (R a0 2), .int x1, .int x2, .int (0 : Int32)]) (rest := []) zl_X11_255 zm_X10_goThroughFits ⟨by decide, by decide⟩ (ci := 10) rfl rfl (by decide) (zw_11_7 hW k_a0) rfl rfl (Nat.le_of_ble_eq_true rfl) zd_X11_fits_2.1.1 (ok_X10_goThroughFits hW (zw_11_7 hW k_a0) (zw_11_8 hW k_a0) (zw_11_2 hW k_a0) h11) ?_
          refine rn_aload_n (q := 0) 0 rfl zd_X11_fits_2.1.2 ?_
          refine rn_getR zf_X11_61 (Or.inl ⟨_, rfl⟩) k_a0 (zx_11_7 hW k_a0) zd_X11_fits_2.2.1 ?_
          refine rn_getI zf_X11_258 (Or.inl rfl) (zw_11_7 hW k_a0) zd_X11_fits_2.2.2.1 ?_
          cases h
          exact rn_iret zd_X11_fits_2.2.2.2 rfl
        · refine rn_icmp_le_f (tgt := 47) hc8 zd_X11_fits_1.1.2.1.1 rfl ?_
          refine rn_bipush (v := -2) zd_X11_fits_1.1.2.1.2 rfl ?_
          cases h
          exact rn_iret zd_X11_fits_1.1.2.2.1 rfl
      · refine rn_icmp_le_f (tgt := 24) hc5 zd_X11_fits_0.2.1.1.2 rfl ?_
        refine rn_iconst (v := -1) zd_X11_fits_0.2.1.2.1 rfl ?_
        cases h
        exact rn_iret zd_X11_fits_0.2.1.2.2 rfl
def n_X11_span (R : zR) (M : zM) (L : zL) (a0 : Nat) (x1 : Int32) (x2 : Int32) (x3 : Int32) : Option (Int32 × zM × zL) :=
  zbd (f_X11_isInRow x1) fun r1 =>
  if r1 = 0 then (
    some ((-1 : Int32), M, L)
  ) else (
    if x2 < 0 then (
      some ((-1 : Int32), M, L)
    ) else (
      if (M (R a0 7) 6) < x2 then (
        some ((-1 : Int32), M, L)
      ) else (
        zbd (f_X6_has M (R a0 2) x3) fun r6 =>
        if r6 = 0 then (
          some ((-1 : Int32), M, L)
        ) else (
          zbd (f_X10_rowsUpTo (R a0 7) x1 (M (R a0 2) 4)) fun r9 =>
          if r9 ≤ (200000 : Int32) then (
            zbd2 (n_X10_goThroughFits R M L (R a0 7) (R a0 8) (R a0 2) x1 x2 x3) fun M12 L13 =>
            if (M12 (R a0 7) 8) = 0 then (
              some ((-2 : Int32), M12, L13)
            ) else (
              some ((((100 : Int32) * (M12 (R a0 7) 9)) + (M12 (R a0 7) 10)), M12, L13)
            )
          ) else (
            some ((-2 : Int32), M, L)
          )
        )
      )
    )
  )
set_option maxRecDepth 4000 in
theorem ok_X11_span {G : zG} {K : zK} {R : zR} {M : zM} {L : zL} (hW : zWT R K) {a0 : Nat} {x1 : Int32} {x2 : Int32} {x3 : Int32} (k_a0 : K[a0]? = some (11, 11)) {r' : Int32} {M' : zM} {L' : zL} (h : n_X11_span R M L a0 x1 x2 x3 = some (r', M', L')) : Rm G mt_X11_span [.ref a0, .int x1, .int x2, .int x3] (M, L, R, K) (some (.int r')) (M', L', R, K) := by
  refine rm_rn rfl rfl (Nat.le_of_ble_eq_true rfl) ?_
  show Rn G mt_X11_span 0 [(0, .ref a0), (1, .int x1), (2, .int x2), (3, .int x3)] [] (M, L, R, K) (some (.int r')) (M', L', R, K)
  unfold n_X11_span at h
  refine rn_iload_n (q := 1) 1 rfl zd_X11_span_0.1.1.1.1 ?_
  obtain ⟨r1, h2, h⟩ := zbd_e h
  refine rn_callSi (As := [.int x1]) (rest := []) zl_X11_248 zm_X11_isInRow ⟨by decide, by decide⟩ rfl rfl (Nat.le_of_ble_eq_true rfl) zd_X11_span_0.1.1.1.2 (ok_X11_isInRow hW h2) ?_
  rcases zif_e h with ⟨hc3, h⟩ | ⟨hc3, h⟩
  · refine rn_if_eq_t (tgt := 33) hc3 zd_X11_span_0.1.1.2.1 rfl ?_
    refine rn_iconst (v := -1) zd_X11_span_0.2.2.2.2 rfl ?_
    cases h
    exact rn_iret zd_X11_span_1.1.1.1.1 rfl
  · refine rn_if_eq_f (tgt := 33) hc3 zd_X11_span_0.1.1.2.1 rfl ?_
    refine rn_iload_n (q := 2) 2 rfl zd_X11_span_0.1.1.2.2 ?_
    rcases zif_e h with ⟨hc4, h⟩ | ⟨hc4, h⟩
    · refine rn_if_lt_t (tgt := 33) hc4 zd_X11_span_0.1.2.1.1 rfl ?_
      refine rn_iconst (v := -1) zd_X11_span_0.2.2.2.2 rfl ?_
      cases h
      exact rn_iret zd_X11_span_1.1.1.1.1 rfl
    · refine rn_if_lt_f (tgt := 33) hc4 zd_X11_span_0.1.2.1.1 rfl ?_
      refine rn_iload_n (q := 2) 2 rfl zd_X11_span_0.1.2.1.2 ?_
      refine rn_aload_n (q := 0) 0 rfl zd_X11_span_0.1.2.2.1 ?_
      refine rn_getR zf_X11_61 (Or.inl ⟨_, rfl⟩) k_a0 (zx_11_7 hW k_a0) zd_X11_span_0.1.2.2.2 ?_
      refine rn_getI zf_X11_245 (Or.inl rfl) (zw_11_7 hW k_a0) zd_X11_span_0.2.1.1.1 ?_
      rcases zif_e h with ⟨hc5, h⟩ | ⟨hc5, h⟩
      · refine rn_icmp_gt_t (tgt := 33) hc5 zd_X11_span_0.2.1.1.2 rfl ?_
        refine rn_iconst (v := -1) zd_X11_span_0.2.2.2.2 rfl ?_
        cases h
        exact rn_iret zd_X11_span_1.1.1.1.1 rfl
      · refine rn_icmp_gt_f (tgt := 33) hc5 zd_X11_span_0.2.1.1.2 rfl ?_
        refine rn_aload_n (q := 0) 0 rfl zd_X11_span_0.2.1.2.1 ?_
        refine rn_getR zf_X11_26 (Or.inl ⟨_, rfl⟩) k_a0 (zx_11_2 hW k_a0) zd_X11_span_0.2.1.2.2 ?_
        refine rn_iload_n (q := 3) 3 rfl zd_X11_span_0.2.2.1.1 ?_
        obtain ⟨r6, h7, h⟩ := zbd_e h
        refine rn_callVi (As := [.int x3]) (rest := []) zl_X11_104 zm_X6_has ⟨by decide, by decide⟩ (ci := 6) rfl rfl (by decide) (zw_11_2 hW k_a0) rfl rfl (Nat.le_of_ble_eq_true rfl) zd_X11_span_0.2.2.1.2 (ok_X6_has hW (zw_11_2 hW k_a0) h7) ?_
        rcases zif_e h with ⟨hc8, h⟩ | ⟨hc8, h⟩
        · refine rn_if_ne_f (tgt := 35) hc8 zd_X11_span_0.2.2.2.1 rfl ?_
          refine rn_iconst (v := -1) zd_X11_span_0.2.2.2.2 rfl ?_
          cases h
          exact rn_iret zd_X11_span_1.1.1.1.1 rfl
        · refine rn_if_ne_t (tgt := 35) hc8 zd_X11_span_0.2.2.2.1 rfl ?_
          refine rn_aload_n (q := 0) 0 rfl zd_X11_span_1.1.1.1.2 ?_
          refine rn_getR zf_X11_61 (Or.inl ⟨_, rfl⟩) k_a0 (zx_11_7 hW k_a0) zd_X11_span_1.1.1.2.1 ?_
          refine rn_iload_n (q := 1) 1 rfl zd_X11_span_1.1.1.2.2 ?_
          refine rn_aload_n (q := 0) 0 rfl zd_X11_span_1.1.2.1.1 ?_
          refine rn_getR zf_X11_26 (Or.inl ⟨_, rfl⟩) k_a0 (zx_11_2 hW k_a0) zd_X11_span_1.1.2.1.2 ?_
          refine rn_getI zf_X11_157 (Or.inl rfl) (zw_11_2 hW k_a0) zd_X11_span_1.1.2.2.1 ?_
          obtain ⟨r9, h10, h⟩ := zbd_e h
          refine rn_callVi (As := [.int x1, .int (M (R a0 2) 4)]) (rest := []) zl_X11_251 zm_X10_rowsUpTo ⟨by decide, by decide⟩ (ci := 10) rfl rfl (by decide) (zw_11_7 hW k_a0) rfl rfl (Nat.le_of_ble_eq_true rfl) zd_X11_span_1.1.2.2.2 (ok_X10_rowsUpTo hW (zw_11_7 hW k_a0) h10) ?_
          refine rn_ldc (v := 200000) zk_X11_254 zd_X11_span_1.2.1.1.1 ?_
          rcases zif_e h with ⟨hc11, h⟩ | ⟨hc11, h⟩
          · refine rn_icmp_le_t (tgt := 58) hc11 zd_X11_span_1.2.1.1.2 rfl ?_
            refine rn_aload_n (q := 0) 0 rfl zd_X11_span_1.2.2.1.1 ?_
            refine rn_getR zf_X11_61 (Or.inl ⟨_, rfl⟩) k_a0 (zx_11_7 hW k_a0) zd_X11_span_1.2.2.1.2 ?_
            refine rn_aload_n (q := 0) 0 rfl zd_X11_span_1.2.2.2.1 ?_
            refine rn_getR zf_X11_68 (Or.inl ⟨_, rfl⟩) k_a0 (zx_11_8 hW k_a0) zd_X11_span_1.2.2.2.2 ?_
            refine rn_aload_n (q := 0) 0 rfl zd_X11_span_2.1.1.1.1 ?_
            refine rn_getR zf_X11_26 (Or.inl ⟨_, rfl⟩) k_a0 (zx_11_2 hW k_a0) zd_X11_span_2.1.1.1.2 ?_
            refine rn_iload_n (q := 1) 1 rfl zd_X11_span_2.1.1.2.1 ?_
            refine rn_iload_n (q := 2) 2 rfl zd_X11_span_2.1.1.2.2 ?_
            refine rn_iload_n (q := 3) 3 rfl zd_X11_span_2.1.2.1.1 ?_
            obtain ⟨M12, L13, h14, h⟩ := zbd2_e h
            refine rn_callVv (As := [.ref (R a0 8), .ref (R a0 2), .int x1, .int x2, .int x3]) (rest := []) zl_X11_255 zm_X10_goThroughFits ⟨by decide, by decide⟩ (ci := 10) rfl rfl (by decide) (zw_11_7 hW k_a0) rfl rfl (Nat.le_of_ble_eq_true rfl) zd_X11_span_2.1.2.1.2 (ok_X10_goThroughFits hW (zw_11_7 hW k_a0) (zw_11_8 hW k_a0) (zw_11_2 hW k_a0) h14) ?_
            refine rn_aload_n (q := 0) 0 rfl zd_X11_span_2.1.2.2.1 ?_
            refine rn_getR zf_X11_61 (Or.inl ⟨_, rfl⟩) k_a0 (zx_11_7 hW k_a0) zd_X11_span_2.1.2.2.2 ?_
            refine rn_getI zf_X11_258 (Or.inl rfl) (zw_11_7 hW k_a0) zd_X11_span_2.2.1.1.1 ?_
            rcases zif_e h with ⟨hc15, h⟩ | ⟨hc15, h⟩
            · refine rn_if_ne_f (tgt := 91) hc15 zd_X11_span_2.2.1.1.2 rfl ?_
              refine rn_bipush (v := -2) zd_X11_span_2.2.1.2.1 rfl ?_
              refine rn_goto (tgt := 109) zd_X11_span_2.2.1.2.2 rfl ?_
              cases h
              exact rn_iret zd_X11_span_3.2.2.2 rfl
            · refine rn_if_ne_t (tgt := 91) hc15 zd_X11_span_2.2.1.1.2 rfl ?_
              refine rn_bipush (v := 100) zd_X11_span_2.2.2.1.1 rfl ?_
              refine rn_aload_n (q := 0) 0 rfl zd_X11_span_2.2.2.1.2 ?_
              refine rn_getR zf_X11_61 (Or.inl ⟨_, rfl⟩) k_a0 (zx_11_7 hW k_a0) zd_X11_span_2.2.2.2.1 ?_
              refine rn_getI zf_X11_261 (Or.inl rfl) (zw_11_7 hW k_a0) zd_X11_span_2.2.2.2.2 ?_
              refine rn_imul zd_X11_span_3.1.1 ?_
              refine rn_aload_n (q := 0) 0 rfl zd_X11_span_3.1.2.1 ?_
              refine rn_getR zf_X11_61 (Or.inl ⟨_, rfl⟩) k_a0 (zx_11_7 hW k_a0) zd_X11_span_3.1.2.2 ?_
              refine rn_getI zf_X11_264 (Or.inl rfl) (zw_11_7 hW k_a0) zd_X11_span_3.2.1 ?_
              refine rn_iadd zd_X11_span_3.2.2.1 ?_
              cases h
              exact rn_iret zd_X11_span_3.2.2.2 rfl
          · refine rn_icmp_le_f (tgt := 58) hc11 zd_X11_span_1.2.1.1.2 rfl ?_
            refine rn_bipush (v := -2) zd_X11_span_1.2.1.2.1 rfl ?_
            cases h
            exact rn_iret zd_X11_span_1.2.1.2.2 rfl
def n_X11_ago (R : zR) (M : zM) (L : zL) (a0 : Nat) (x1 : Int32) : Option (Int32 × zM × zL) :=
  zbd (f_X11_isInRow x1) fun r1 =>
  if r1 = 0 then (
    some ((-1 : Int32), M, L)
  ) else (
    zbd (f_X10_rowsUpTo (R a0 7) x1 (M (R a0 2) 4)) fun r4 =>
    if r4 ≤ (200000 : Int32) then (
      zbd2 (n_X10_goThroughAgo R M L (R a0 7) (R a0 8) (R a0 2) x1) fun M7 L8 =>
      some ((M7 (R a0 7) 8), M7, L8)
    ) else (
      some ((-2 : Int32), M, L)
    )
  )
set_option maxRecDepth 4000 in
theorem ok_X11_ago {G : zG} {K : zK} {R : zR} {M : zM} {L : zL} (hW : zWT R K) {a0 : Nat} {x1 : Int32} (k_a0 : K[a0]? = some (11, 11)) {r' : Int32} {M' : zM} {L' : zL} (h : n_X11_ago R M L a0 x1 = some (r', M', L')) : Rm G mt_X11_ago [.ref a0, .int x1] (M, L, R, K) (some (.int r')) (M', L', R, K) := by
  refine rm_rn rfl rfl (Nat.le_of_ble_eq_true rfl) ?_
  show Rn G mt_X11_ago 0 [(0, .ref a0), (1, .int x1)] [] (M, L, R, K) (some (.int r')) (M', L', R, K)
  unfold n_X11_ago at h
  refine rn_iload_n (q := 1) 1 rfl zd_X11_ago_0.1.1.1.1 ?_
  obtain ⟨r1, h2, h⟩ := zbd_e h
  refine rn_callSi (As := [.int x1]) (rest := []) zl_X11_248 zm_X11_isInRow ⟨by decide, by decide⟩ rfl rfl (Nat.le_of_ble_eq_true rfl) zd_X11_ago_0.1.1.1.2 (ok_X11_isInRow hW h2) ?_
  rcases zif_e h with ⟨hc3, h⟩ | ⟨hc3, h⟩
  · refine rn_if_ne_f (tgt := 9) hc3 zd_X11_ago_0.1.1.2.1 rfl ?_
    refine rn_iconst (v := -1) zd_X11_ago_0.1.1.2.2 rfl ?_
    cases h
    exact rn_iret zd_X11_ago_0.1.2.1.1 rfl
  · refine rn_if_ne_t (tgt := 9) hc3 zd_X11_ago_0.1.1.2.1 rfl ?_
    refine rn_aload_n (q := 0) 0 rfl zd_X11_ago_0.1.2.1.2 ?_
    refine rn_getR zf_X11_61 (Or.inl ⟨_, rfl⟩) k_a0 (zx_11_7 hW k_a0) zd_X11_ago_0.1.2.2.1 ?_
    refine rn_iload_n (q := 1) 1 rfl zd_X11_ago_0.1.2.2.2 ?_
    refine rn_aload_n (q := 0) 0 rfl zd_X11_ago_0.2.1.1.1 ?_
    refine rn_getR zf_X11_26 (Or.inl ⟨_, rfl⟩) k_a0 (zx_11_2 hW k_a0) zd_X11_ago_0.2.1.1.2 ?_
    refine rn_getI zf_X11_157 (Or.inl rfl) (zw_11_2 hW k_a0) zd_X11_ago_0.2.1.2.1 ?_
    obtain ⟨r4, h5, h⟩ := zbd_e h
    refine rn_callVi (As := [.int x1, .int (M (R a0 2) 4)]) (rest := []) zl_X11_251 zm_X10_rowsUpTo ⟨by decide, by decide⟩ (ci := 10) rfl rfl (by decide) (zw_11_7 hW k_a0) rfl rfl (Nat.le_of_ble_eq_true rfl) zd_X11_ago_0.2.1.2.2 (ok_X10_rowsUpTo hW (zw_11_7 hW k_a0) h5) ?_
    refine rn_ldc (v := 200000) zk_X11_254 zd_X11_ago_0.2.2.1.1 ?_
    rcases zif_e h with ⟨hc6, h⟩ | ⟨hc6, h⟩
    · refine rn_icmp_le_t (tgt := 32) hc6 zd_X11_ago_0.2.2.1.2 rfl ?_
      refine rn_aload_n (q := 0) 0 rfl zd_X11_ago_1.1.1.1 ?_
      refine rn_getR zf_X11_61 (Or.inl ⟨_, rfl⟩) k_a0 (zx_11_7 hW k_a0) zd_X11_ago_1.1.1.2.1 ?_
      refine rn_aload_n (q := 0) 0 rfl zd_X11_ago_1.1.1.2.2 ?_
      refine rn_getR zf_X11_68 (Or.inl ⟨_, rfl⟩) k_a0 (zx_11_8 hW k_a0) zd_X11_ago_1.1.2.1 ?_
      refine rn_aload_n (q := 0) 0 rfl zd_X11_ago_1.1.2.2.1 ?_
      refine rn_getR zf_X11_26 (Or.inl ⟨_, rfl⟩) k_a0 (zx_11_2 hW k_a0) zd_X11_ago_1.1.2.2.2 ?_
      refine rn_iload_n (q := 1) 1 rfl zd_X11_ago_1.2.1.1 ?_
      obtain ⟨M7, L8, h9, h⟩ := zbd2_e h
      refine rn_callVv (As := [.ref (R a0 8), .ref (R a0 2), .int x1]) (rest := []) zl_X11_267 zm_X10_goThroughAgo ⟨by decide, by decide⟩ (ci := 10) rfl rfl (by decide) (zw_11_7 hW k_a0) rfl rfl (Nat.le_of_ble_eq_true rfl) zd_X11_ago_1.2.1.2.1 (ok_X10_goThroughAgo hW (zw_11_7 hW k_a0) (zw_11_8 hW k_a0) (zw_11_2 hW k_a0) h9) ?_
      refine rn_aload_n (q := 0) 0 rfl zd_X11_ago_1.2.1.2.2 ?_
      refine rn_getR zf_X11_61 (Or.inl ⟨_, rfl⟩) k_a0 (zx_11_7 hW k_a0) zd_X11_ago_1.2.2.1 ?_
      refine rn_getI zf_X11_258 (Or.inl rfl) (zw_11_7 hW k_a0) zd_X11_ago_1.2.2.2.1 ?_
      cases h
      exact rn_iret zd_X11_ago_1.2.2.2.2 rfl
    · refine rn_icmp_le_f (tgt := 32) hc6 zd_X11_ago_0.2.2.1.2 rfl ?_
      refine rn_bipush (v := -2) zd_X11_ago_0.2.2.2.1 rfl ?_
      cases h
      exact rn_iret zd_X11_ago_0.2.2.2.2 rfl
def n_X11_hold (R : zR) (M : zM) (L : zL) (a0 : Nat) (x1 : Int32) : Option (Int32 × zM × zL) :=
  zbd3 (n_X2_holdIn R M L (R a0 3) x1 (R a0 2)) fun r1 M2 L3 =>
  zck (zbool r1) <|
  some (r1, M2, L3)
set_option maxRecDepth 4000 in
theorem ok_X11_hold {G : zG} {K : zK} {R : zR} {M : zM} {L : zL} (hW : zWT R K) {a0 : Nat} {x1 : Int32} (k_a0 : K[a0]? = some (11, 11)) {r' : Int32} {M' : zM} {L' : zL} (h : n_X11_hold R M L a0 x1 = some (r', M', L')) : Rm G mt_X11_hold [.ref a0, .int x1] (M, L, R, K) (some (.int r')) (M', L', R, K) := by
  refine rm_rn rfl rfl (Nat.le_of_ble_eq_true rfl) ?_
  show Rn G mt_X11_hold 0 [(0, .ref a0), (1, .int x1)] [] (M, L, R, K) (some (.int r')) (M', L', R, K)
  unfold n_X11_hold at h
  refine rn_aload_n (q := 0) 0 rfl zd_X11_hold_0.1.1 ?_
  refine rn_getR zf_X11_33 (Or.inl ⟨_, rfl⟩) k_a0 (zx_11_3 hW k_a0) zd_X11_hold_0.1.2.1 ?_
  refine rn_iload_n (q := 1) 1 rfl zd_X11_hold_0.1.2.2 ?_
  refine rn_aload_n (q := 0) 0 rfl zd_X11_hold_0.2.1.1 ?_
  refine rn_getR zf_X11_26 (Or.inl ⟨_, rfl⟩) k_a0 (zx_11_2 hW k_a0) zd_X11_hold_0.2.1.2 ?_
  obtain ⟨r1, M2, L3, h4, h⟩ := zbd3_e h
  refine rn_callVi (As := [.int x1, .ref (R a0 2)]) (rest := []) zl_X11_270 zm_X2_holdIn ⟨by decide, by decide⟩ (ci := 2) rfl rfl (by decide) (zw_11_3 hW k_a0) rfl rfl (Nat.le_of_ble_eq_true rfl) zd_X11_hold_0.2.2.1 (ok_X2_holdIn hW (zw_11_3 hW k_a0) (zw_11_2 hW k_a0) h4) ?_
  obtain ⟨hc5, h⟩ := zck_e h
  cases h
  exact rn_zret zd_X11_hold_0.2.2.2 rfl (zbool_n hc5)
def n_X11_restore (R : zR) (M : zM) (L : zL) (a0 : Nat) (x1 : Int32) : Option (Int32 × zM × zL) :=
  zbd3 (n_X2_bringBack R M L (R a0 3) x1 (R a0 2)) fun r1 M2 L3 =>
  if r1 = 0 then (
    some ((0 : Int32), M2, L3)
  ) else (
    zbd (f_X2_forgetPast M2 (R a0 3)) fun M6 =>
    some ((1 : Int32), M6, L3)
  )
set_option maxRecDepth 4000 in
theorem ok_X11_restore {G : zG} {K : zK} {R : zR} {M : zM} {L : zL} (hW : zWT R K) {a0 : Nat} {x1 : Int32} (k_a0 : K[a0]? = some (11, 11)) {r' : Int32} {M' : zM} {L' : zL} (h : n_X11_restore R M L a0 x1 = some (r', M', L')) : Rm G mt_X11_restore [.ref a0, .int x1] (M, L, R, K) (some (.int r')) (M', L', R, K) := by
  refine rm_rn rfl rfl (Nat.le_of_ble_eq_true rfl) ?_
  show Rn G mt_X11_restore 0 [(0, .ref a0), (1, .int x1)] [] (M, L, R, K) (some (.int r')) (M', L', R, K)
  unfold n_X11_restore at h
  refine rn_aload_n (q := 0) 0 rfl zd_X11_restore_0.1.1.1 ?_
  refine rn_getR zf_X11_33 (Or.inl ⟨_, rfl⟩) k_a0 (zx_11_3 hW k_a0) zd_X11_restore_0.1.1.2.1 ?_
  refine rn_iload_n (q := 1) 1 rfl zd_X11_restore_0.1.1.2.2 ?_
  refine rn_aload_n (q := 0) 0 rfl zd_X11_restore_0.1.2.1.1 ?_
  refine rn_getR zf_X11_26 (Or.inl ⟨_, rfl⟩) k_a0 (zx_11_2 hW k_a0) zd_X11_restore_0.1.2.1.2 ?_
  obtain ⟨r1, M2, L3, h4, h⟩ := zbd3_e h
  refine rn_callVi (As := [.int x1, .ref (R a0 2)]) (rest := []) zl_X11_274 zm_X2_bringBack ⟨by decide, by decide⟩ (ci := 2) rfl rfl (by decide) (zw_11_3 hW k_a0) rfl rfl (Nat.le_of_ble_eq_true rfl) zd_X11_restore_0.1.2.2.1 (ok_X2_bringBack hW (zw_11_3 hW k_a0) (zw_11_2 hW k_a0) h4) ?_
  rcases zif_e h with ⟨hc5, h⟩ | ⟨hc5, h⟩
  · refine rn_if_ne_f (tgt := 17) hc5 zd_X11_restore_0.1.2.2.2 rfl ?_
    refine rn_iconst (v := 0) zd_X11_restore_0.2.1.1 rfl ?_
    cases h
    exact rn_zret zd_X11_restore_0.2.1.2.1 rfl rfl
  · refine rn_if_ne_t (tgt := 17) hc5 zd_X11_restore_0.1.2.2.2 rfl ?_
    refine rn_aload_n (q := 0) 0 rfl zd_X11_restore_0.2.1.2.2 ?_
    refine rn_getR zf_X11_33 (Or.inl ⟨_, rfl⟩) k_a0 (zx_11_3 hW k_a0) zd_X11_restore_0.2.2.1.1 ?_
    obtain ⟨M6, h7, h⟩ := zbd_e h
    refine rn_callVv (As := []) (rest := []) zl_X11_277 zm_X2_forgetPast ⟨by decide, by decide⟩ (ci := 2) rfl rfl (by decide) (zw_11_3 hW k_a0) rfl rfl (Nat.le_of_ble_eq_true rfl) zd_X11_restore_0.2.2.1.2 (ok_X2_forgetPast hW (zw_11_3 hW k_a0) h7) ?_
    refine rn_iconst (v := 1) zd_X11_restore_0.2.2.2.1 rfl ?_
    cases h
    exact rn_zret zd_X11_restore_0.2.2.2.2 rfl rfl
def f_X11_count (R : zR) (M : zM) (a0 : Nat) (x1 : Int32) : Option (Int32) :=
  if x1 = 0 then (
    some (M (R a0 2) 4)
  ) else (
    if x1 = 1 then (
      if (M (R a0 8) 6) = 0 then (
        some (0 : Int32)
      ) else (
        some (1 : Int32)
      )
    ) else (
      if x1 = 2 then (
        if (M (R a0 8) 7) = 0 then (
          some (0 : Int32)
        ) else (
          some (1 : Int32)
        )
      ) else (
        if x1 = 3 then (
          some (M (R a0 8) 8)
        ) else (
          if x1 = 4 then (
            some (M (R a0 8) 9)
          ) else (
            if x1 = 5 then (
              some (M (R a0 2) 5)
            ) else (
              if x1 = 6 then (
                some (M (R a0 2) 6)
              ) else (
                if x1 = 7 then (
                  zbd (f_X6_total R M (R a0 2)) fun r16 =>
                  some r16
                ) else (
                  if x1 = 8 then (
                    some (M (R a0 2) 7)
                  ) else (
                    if x1 = 9 then (
                      some (M (R a0 0) 1)
                    ) else (
                      if x1 = 10 then (
                        some (M (R a0 3) 4)
                      ) else (
                        if x1 = 11 then (
                          some (M (R a0 7) 6)
                        ) else (
                          if x1 = 12 then (
                            zbd (f_X2_heldSlots R M (R a0 3)) fun r18 =>
                            some r18
                          ) else (
                            some (-1 : Int32)
                          )
                        )
                      )
                    )
                  )
                )
              )
            )
          )
        )
      )
    )
  )
set_option maxRecDepth 4000 in
theorem ok_X11_count {G : zG} {K : zK} {R : zR} {M : zM} {L : zL} (hW : zWT R K) {a0 : Nat} {x1 : Int32} (k_a0 : K[a0]? = some (11, 11)) {r' : Int32} (h : f_X11_count R M a0 x1 = some r') : Rm G mt_X11_count [.ref a0, .int x1] (M, L, R, K) (some (.int r')) (M, L, R, K) := by
  refine rm_rn rfl rfl (Nat.le_of_ble_eq_true rfl) ?_
  show Rn G mt_X11_count 0 [(0, .ref a0), (1, .int x1)] [] (M, L, R, K) (some (.int r')) (M, L, R, K)
  unfold f_X11_count at h
  refine rn_iload_n (q := 1) 1 rfl zd_X11_count_0.1.1.1.1 ?_
  rcases zif_e h with ⟨hc1, h⟩ | ⟨hc1, h⟩
  · refine rn_tblIn (v := 0) (tgt := 68) zd_X11_count_0.1.1.1.2 (by rw [hc1]; rfl) (by decide) (by decide) rfl rfl ?_
    refine rn_aload_n (q := 0) 0 rfl zd_X11_count_0.1.1.2.1 ?_
    refine rn_getR zf_X11_26 (Or.inl ⟨_, rfl⟩) k_a0 (zx_11_2 hW k_a0) zd_X11_count_0.1.1.2.2 ?_
    refine rn_getI zf_X11_157 (Or.inl rfl) (zw_11_2 hW k_a0) zd_X11_count_0.1.2.1.1 ?_
    cases h
    exact rn_iret zd_X11_count_0.1.2.1.2 rfl
  · rcases zif_e h with ⟨hc2, h⟩ | ⟨hc2, h⟩
    · refine rn_tblIn (v := 1) (tgt := 76) zd_X11_count_0.1.1.1.2 (by rw [hc2]; rfl) (by decide) (by decide) rfl rfl ?_
      refine rn_aload_n (q := 0) 0 rfl zd_X11_count_0.1.2.2.1 ?_
      refine rn_getR zf_X11_68 (Or.inl ⟨_, rfl⟩) k_a0 (zx_11_8 hW k_a0) zd_X11_count_0.1.2.2.2 ?_
      refine rn_getI zf_X11_174 (Or.inr rfl) (zw_11_8 hW k_a0) zd_X11_count_0.2.1.1.1 ?_
      rcases zif_e h with ⟨hc14, h⟩ | ⟨hc14, h⟩
      · refine rn_if_eq_t (tgt := 90) hc14 zd_X11_count_0.2.1.1.2 rfl ?_
        refine rn_iconst (v := 0) zd_X11_count_0.2.2.1.1 rfl ?_
        cases h
        exact rn_iret zd_X11_count_0.2.2.1.2 rfl
      · refine rn_if_eq_f (tgt := 90) hc14 zd_X11_count_0.2.1.1.2 rfl ?_
        refine rn_iconst (v := 1) zd_X11_count_0.2.1.2.1 rfl ?_
        refine rn_goto (tgt := 91) zd_X11_count_0.2.1.2.2 rfl ?_
        cases h
        exact rn_iret zd_X11_count_0.2.2.1.2 rfl
    · rcases zif_e h with ⟨hc3, h⟩ | ⟨hc3, h⟩
      · refine rn_tblIn (v := 2) (tgt := 92) zd_X11_count_0.1.1.1.2 (by rw [hc3]; rfl) (by decide) (by decide) rfl rfl ?_
        refine rn_aload_n (q := 0) 0 rfl zd_X11_count_0.2.2.2.1 ?_
        refine rn_getR zf_X11_68 (Or.inl ⟨_, rfl⟩) k_a0 (zx_11_8 hW k_a0) zd_X11_count_0.2.2.2.2 ?_
        refine rn_getI zf_X11_280 (Or.inr rfl) (zw_11_8 hW k_a0) zd_X11_count_1.1.1.1.1 ?_
        rcases zif_e h with ⟨hc15, h⟩ | ⟨hc15, h⟩
        · refine rn_if_eq_t (tgt := 106) hc15 zd_X11_count_1.1.1.1.2 rfl ?_
          refine rn_iconst (v := 0) zd_X11_count_1.1.2.1.1 rfl ?_
          cases h
          exact rn_iret zd_X11_count_1.1.2.1.2 rfl
        · refine rn_if_eq_f (tgt := 106) hc15 zd_X11_count_1.1.1.1.2 rfl ?_
          refine rn_iconst (v := 1) zd_X11_count_1.1.1.2.1 rfl ?_
          refine rn_goto (tgt := 107) zd_X11_count_1.1.1.2.2 rfl ?_
          cases h
          exact rn_iret zd_X11_count_1.1.2.1.2 rfl
      · rcases zif_e h with ⟨hc4, h⟩ | ⟨hc4, h⟩
        · refine rn_tblIn (v := 3) (tgt := 108) zd_X11_count_0.1.1.1.2 (by rw [hc4]; rfl) (by decide) (by decide) rfl rfl ?_
          refine rn_aload_n (q := 0) 0 rfl zd_X11_count_1.1.2.2.1 ?_
          refine rn_getR zf_X11_68 (Or.inl ⟨_, rfl⟩) k_a0 (zx_11_8 hW k_a0) zd_X11_count_1.1.2.2.2 ?_
          refine rn_getI zf_X11_140 (Or.inl rfl) (zw_11_8 hW k_a0) zd_X11_count_1.2.1.1.1 ?_
          cases h
          exact rn_iret zd_X11_count_1.2.1.1.2 rfl
        · rcases zif_e h with ⟨hc5, h⟩ | ⟨hc5, h⟩
          · refine rn_tblIn (v := 4) (tgt := 116) zd_X11_count_0.1.1.1.2 (by rw [hc5]; rfl) (by decide) (by decide) rfl rfl ?_
            refine rn_aload_n (q := 0) 0 rfl zd_X11_count_1.2.1.2.1 ?_
            refine rn_getR zf_X11_68 (Or.inl ⟨_, rfl⟩) k_a0 (zx_11_8 hW k_a0) zd_X11_count_1.2.1.2.2 ?_
            refine rn_getI zf_X11_283 (Or.inl rfl) (zw_11_8 hW k_a0) zd_X11_count_1.2.2.1.1 ?_
            cases h
            exact rn_iret zd_X11_count_1.2.2.1.2 rfl
          · rcases zif_e h with ⟨hc6, h⟩ | ⟨hc6, h⟩
            · refine rn_tblIn (v := 5) (tgt := 124) zd_X11_count_0.1.1.1.2 (by rw [hc6]; rfl) (by decide) (by decide) rfl rfl ?_
              refine rn_aload_n (q := 0) 0 rfl zd_X11_count_1.2.2.2.1 ?_
              refine rn_getR zf_X11_26 (Or.inl ⟨_, rfl⟩) k_a0 (zx_11_2 hW k_a0) zd_X11_count_1.2.2.2.2 ?_
              refine rn_getI zf_X11_154 (Or.inl rfl) (zw_11_2 hW k_a0) zd_X11_count_2.1.1.1.1 ?_
              cases h
              exact rn_iret zd_X11_count_2.1.1.1.2 rfl
            · rcases zif_e h with ⟨hc7, h⟩ | ⟨hc7, h⟩
              · refine rn_tblIn (v := 6) (tgt := 132) zd_X11_count_0.1.1.1.2 (by rw [hc7]; rfl) (by decide) (by decide) rfl rfl ?_
                refine rn_aload_n (q := 0) 0 rfl zd_X11_count_2.1.1.2.1 ?_
                refine rn_getR zf_X11_26 (Or.inl ⟨_, rfl⟩) k_a0 (zx_11_2 hW k_a0) zd_X11_count_2.1.1.2.2 ?_
                refine rn_getI zf_X11_147 (Or.inl rfl) (zw_11_2 hW k_a0) zd_X11_count_2.1.2.1.1 ?_
                cases h
                exact rn_iret zd_X11_count_2.1.2.1.2 rfl
              · rcases zif_e h with ⟨hc8, h⟩ | ⟨hc8, h⟩
                · refine rn_tblIn (v := 7) (tgt := 140) zd_X11_count_0.1.1.1.2 (by rw [hc8]; rfl) (by decide) (by decide) rfl rfl ?_
                  refine rn_aload_n (q := 0) 0 rfl zd_X11_count_2.1.2.2.1 ?_
                  refine rn_getR zf_X11_26 (Or.inl ⟨_, rfl⟩) k_a0 (zx_11_2 hW k_a0) zd_X11_count_2.1.2.2.2 ?_
                  obtain ⟨r16, h17, h⟩ := zbd_e h
                  refine rn_callVi (As := []) (rest := []) zl_X11_286 zm_X6_total ⟨by decide, by decide⟩ (ci := 6) rfl rfl (by decide) (zw_11_2 hW k_a0) rfl rfl (Nat.le_of_ble_eq_true rfl) zd_X11_count_2.2.1.1.1 (ok_X6_total hW (zw_11_2 hW k_a0) h17) ?_
                  cases h
                  exact rn_iret zd_X11_count_2.2.1.1.2 rfl
                · rcases zif_e h with ⟨hc9, h⟩ | ⟨hc9, h⟩
                  · refine rn_tblIn (v := 8) (tgt := 148) zd_X11_count_0.1.1.1.2 (by rw [hc9]; rfl) (by decide) (by decide) rfl rfl ?_
                    refine rn_aload_n (q := 0) 0 rfl zd_X11_count_2.2.1.2.1 ?_
                    refine rn_getR zf_X11_26 (Or.inl ⟨_, rfl⟩) k_a0 (zx_11_2 hW k_a0) zd_X11_count_2.2.1.2.2 ?_
                    refine rn_getI zf_X11_289 (Or.inl rfl) (zw_11_2 hW k_a0) zd_X11_count_2.2.2.1.1 ?_
                    cases h
                    exact rn_iret zd_X11_count_2.2.2.1.2 rfl
                  · rcases zif_e h with ⟨hc10, h⟩ | ⟨hc10, h⟩
                    · refine rn_tblIn (v := 9) (tgt := 156) zd_X11_count_0.1.1.1.2 (by rw [hc10]; rfl) (by decide) (by decide) rfl rfl ?_
                      refine rn_aload_n (q := 0) 0 rfl zd_X11_count_2.2.2.2.1 ?_
                      refine rn_getR zf_X11_10 (Or.inl ⟨_, rfl⟩) k_a0 (zx_11_0 hW k_a0) zd_X11_count_2.2.2.2.2 ?_
                      refine rn_getI zf_X11_83 (Or.inl rfl) (zw_11_0 hW k_a0) zd_X11_count_3.1.1.1.1 ?_
                      cases h
                      exact rn_iret zd_X11_count_3.1.1.1.2 rfl
                    · rcases zif_e h with ⟨hc11, h⟩ | ⟨hc11, h⟩
                      · refine rn_tblIn (v := 10) (tgt := 164) zd_X11_count_0.1.1.1.2 (by rw [hc11]; rfl) (by decide) (by decide) rfl rfl ?_
                        refine rn_aload_n (q := 0) 0 rfl zd_X11_count_3.1.1.2.1 ?_
                        refine rn_getR zf_X11_33 (Or.inl ⟨_, rfl⟩) k_a0 (zx_11_3 hW k_a0) zd_X11_count_3.1.1.2.2 ?_
                        refine rn_getI zf_X11_292 (Or.inl rfl) (zw_11_3 hW k_a0) zd_X11_count_3.1.2.1.1 ?_
                        cases h
                        exact rn_iret zd_X11_count_3.1.2.1.2 rfl
                      · rcases zif_e h with ⟨hc12, h⟩ | ⟨hc12, h⟩
                        · refine rn_tblIn (v := 11) (tgt := 172) zd_X11_count_0.1.1.1.2 (by rw [hc12]; rfl) (by decide) (by decide) rfl rfl ?_
                          refine rn_aload_n (q := 0) 0 rfl zd_X11_count_3.1.2.2.1 ?_
                          refine rn_getR zf_X11_61 (Or.inl ⟨_, rfl⟩) k_a0 (zx_11_7 hW k_a0) zd_X11_count_3.1.2.2.2 ?_
                          refine rn_getI zf_X11_245 (Or.inl rfl) (zw_11_7 hW k_a0) zd_X11_count_3.2.1.1.1 ?_
                          cases h
                          exact rn_iret zd_X11_count_3.2.1.1.2 rfl
                        · rcases zif_e h with ⟨hc13, h⟩ | ⟨hc13, h⟩
                          · refine rn_tblIn (v := 12) (tgt := 180) zd_X11_count_0.1.1.1.2 (by rw [hc13]; rfl) (by decide) (by decide) rfl rfl ?_
                            refine rn_aload_n (q := 0) 0 rfl zd_X11_count_3.2.1.2.1 ?_
                            refine rn_getR zf_X11_33 (Or.inl ⟨_, rfl⟩) k_a0 (zx_11_3 hW k_a0) zd_X11_count_3.2.1.2.2 ?_
                            obtain ⟨r18, h19, h⟩ := zbd_e h
                            refine rn_callVi (As := []) (rest := []) zl_X11_295 zm_X2_heldSlots ⟨by decide, by decide⟩ (ci := 2) rfl rfl (by decide) (zw_11_3 hW k_a0) rfl rfl (Nat.le_of_ble_eq_true rfl) zd_X11_count_3.2.2.1.1 (ok_X2_heldSlots hW (zw_11_3 hW k_a0) h19) ?_
                            cases h
                            exact rn_iret zd_X11_count_3.2.2.1.2 rfl
                          · have ht : x1.toInt < 0 ∨ 12 < x1.toInt := by
                              have q0 := zto (n := 0) hc1 rfl
                              have q1 := zto (n := 1) hc2 rfl
                              have q2 := zto (n := 2) hc3 rfl
                              have q3 := zto (n := 3) hc4 rfl
                              have q4 := zto (n := 4) hc5 rfl
                              have q5 := zto (n := 5) hc6 rfl
                              have q6 := zto (n := 6) hc7 rfl
                              have q7 := zto (n := 7) hc8 rfl
                              have q8 := zto (n := 8) hc9 rfl
                              have q9 := zto (n := 9) hc10 rfl
                              have q10 := zto (n := 10) hc11 rfl
                              have q11 := zto (n := 11) hc12 rfl
                              have q12 := zto (n := 12) hc13 rfl
                              omega
                            refine rn_tblOut (tgt := 188) zd_X11_count_0.1.1.1.2 ht rfl ?_
                            refine rn_iconst (v := -1) zd_X11_count_3.2.2.2.1 rfl ?_
                            cases h
                            exact rn_iret zd_X11_count_3.2.2.2.2 rfl

abbrev P_X6_copy_34 (G : zG) (K : zK) (R : zR) (a0 : Nat) (a1 : Nat) (r : Option Value) (S' : zS) (v : Int32 × zM × zL) : Prop := Rn G mt_X6_copy 34 [(0, .ref a0), (1, .ref a1), (2, .int v.1)] [] (v.2.1, v.2.2, R, K) r S'
abbrev Q_X6_copy_34 (G : zG) (K : zK) (R : zR) (a0 : Nat) (a1 : Nat) (r : Option Value) (S' : zS) : (zM × zL) → Prop := (fun e => Rn G mt_X6_copy 102 [] [] (e.1, e.2, R, K) r S')
def nb_X6_copy_34 (R : zR) (M : zM) (L : zL) (a0 : Nat) (a1 : Nat) (x2 : Int32) : Option ((Int32 × zM × zL) ⊕ ((zM × zL))) :=
  if (M a0 4) ≤ x2 then (
    some (.inr (M, L))
  ) else (
    if (10 : Int32) ≤ x2 then (
      some (.inr (M, L))
    ) else (
      zck (zin x2 10) <|
      zck (zin x2 10) <|
      zlt (zup M (R a0 0) (ztn x2) (M (R a1 0) (ztn x2))) fun M9 =>
      zck (zin x2 10) <|
      zck (zin x2 10) <|
      zlt (zup M9 (R a0 1) (ztn x2) (M9 (R a1 1) (ztn x2))) fun M12 =>
      zck (zin x2 10) <|
      zck (zin x2 10) <|
      zlt (zup M12 (R a0 2) (ztn x2) (M12 (R a1 2) (ztn x2))) fun M15 =>
      zck (zin x2 10) <|
      zck (zin x2 10) <|
      zlt (zupL L (R a0 3) (ztn x2) (L (R a1 3) (ztn x2))) fun L18 =>
      some (.inl ((x2 + 1), M15, L18))
    )
  )
set_option maxRecDepth 4000 in
theorem ok_b_X6_copy_34 {G : zG} {K : zK} {R : zR} {M : zM} {L : zL} (hW : zWT R K) {a0 : Nat} {a1 : Nat} {x2 : Int32} (k_a0 : K[a0]? = some (6, 8)) (k_a1 : K[a1]? = some (6, 8)) {r : Option Value} {S' : zS} {x : (Int32 × zM × zL) ⊕ ((zM × zL))} (h : nb_X6_copy_34 R M L a0 a1 x2 = some x) (hk : Sum.elim (P_X6_copy_34 G K R a0 a1 r S') (Q_X6_copy_34 G K R a0 a1 r S') x) : P_X6_copy_34 G K R a0 a1 r S' (x2, M, L) := by
  show Rn G mt_X6_copy 34 [(0, .ref a0), (1, .ref a1), (2, .int x2)] [] (M, L, R, K) r S'
  unfold nb_X6_copy_34 at h
  refine rn_iload_n (q := 2) 2 rfl zd_X6_copy_1.1.1.2.1 ?_
  refine rn_aload_n (q := 0) 0 rfl zd_X6_copy_1.1.1.2.2 ?_
  refine rn_getI zf_X6_25 (Or.inl rfl) k_a0 zd_X6_copy_1.1.2.1.1 ?_
  rcases zif_e h with ⟨hc5, h⟩ | ⟨hc5, h⟩
  · refine rn_icmp_ge_t (tgt := 102) hc5 zd_X6_copy_1.1.2.1.2 rfl ?_
    cases h
    exact rn_sub (ls' := []) [] rfl hk
  · refine rn_icmp_ge_f (tgt := 102) hc5 zd_X6_copy_1.1.2.1.2 rfl ?_
    refine rn_iload_n (q := 2) 2 rfl zd_X6_copy_1.1.2.2.1 ?_
    refine rn_bipush (v := 10) zd_X6_copy_1.1.2.2.2 rfl ?_
    rcases zif_e h with ⟨hc6, h⟩ | ⟨hc6, h⟩
    · refine rn_icmp_ge_t (tgt := 102) hc6 zd_X6_copy_1.2.1.1.1 rfl ?_
      cases h
      exact rn_sub (ls' := []) [] rfl hk
    · refine rn_icmp_ge_f (tgt := 102) hc6 zd_X6_copy_1.2.1.1.1 rfl ?_
      refine rn_aload_n (q := 0) 0 rfl zd_X6_copy_1.2.1.1.2 ?_
      refine rn_getR zf_X6_9 (Or.inr ⟨_, rfl⟩) k_a0 (zx_6_0 hW k_a0) zd_X6_copy_1.2.1.2.1 ?_
      refine rn_iload_n (q := 2) 2 rfl zd_X6_copy_1.2.1.2.2 ?_
      refine rn_aload_n (q := 1) 1 rfl zd_X6_copy_1.2.2.1.1 ?_
      refine rn_getR zf_X6_9 (Or.inr ⟨_, rfl⟩) k_a1 (zx_6_0 hW k_a1) zd_X6_copy_1.2.2.1.2 ?_
      refine rn_iload_n (q := 2) 2 rfl zd_X6_copy_1.2.2.2.1 ?_
      obtain ⟨hc7, h⟩ := zck_e h
      refine rn_iald (zw_6_0 hW k_a1) hc7 zd_X6_copy_1.2.2.2.2 ?_
      obtain ⟨hc8, h⟩ := zck_e h
      obtain ⟨M9, hM9, h⟩ := zlt_e h
      refine rn_iast hM9 (zw_6_0 hW k_a0) hc8 zd_X6_copy_2.1.1.1.1 ?_
      refine rn_aload_n (q := 0) 0 rfl zd_X6_copy_2.1.1.1.2 ?_
      refine rn_getR zf_X6_15 (Or.inr ⟨_, rfl⟩) k_a0 (zx_6_1 hW k_a0) zd_X6_copy_2.1.1.2.1 ?_
      refine rn_iload_n (q := 2) 2 rfl zd_X6_copy_2.1.1.2.2 ?_
      refine rn_aload_n (q := 1) 1 rfl zd_X6_copy_2.1.2.1.1 ?_
      refine rn_getR zf_X6_15 (Or.inr ⟨_, rfl⟩) k_a1 (zx_6_1 hW k_a1) zd_X6_copy_2.1.2.1.2 ?_
      refine rn_iload_n (q := 2) 2 rfl zd_X6_copy_2.1.2.2.1 ?_
      obtain ⟨hc10, h⟩ := zck_e h
      refine rn_iald (zw_6_1 hW k_a1) hc10 zd_X6_copy_2.1.2.2.2 ?_
      obtain ⟨hc11, h⟩ := zck_e h
      obtain ⟨M12, hM12, h⟩ := zlt_e h
      refine rn_iast hM12 (zw_6_1 hW k_a0) hc11 zd_X6_copy_2.2.1.1.1 ?_
      refine rn_aload_n (q := 0) 0 rfl zd_X6_copy_2.2.1.1.2 ?_
      refine rn_getR zf_X6_18 (Or.inr ⟨_, rfl⟩) k_a0 (zx_6_2 hW k_a0) zd_X6_copy_2.2.1.2.1 ?_
      refine rn_iload_n (q := 2) 2 rfl zd_X6_copy_2.2.1.2.2 ?_
      refine rn_aload_n (q := 1) 1 rfl zd_X6_copy_2.2.2.1.1 ?_
      refine rn_getR zf_X6_18 (Or.inr ⟨_, rfl⟩) k_a1 (zx_6_2 hW k_a1) zd_X6_copy_2.2.2.1.2 ?_
      refine rn_iload_n (q := 2) 2 rfl zd_X6_copy_2.2.2.2.1 ?_
      obtain ⟨hc13, h⟩ := zck_e h
      refine rn_iald (zw_6_2 hW k_a1) hc13 zd_X6_copy_2.2.2.2.2 ?_
      obtain ⟨hc14, h⟩ := zck_e h
      obtain ⟨M15, hM15, h⟩ := zlt_e h
      refine rn_iast hM15 (zw_6_2 hW k_a0) hc14 zd_X6_copy_3.1.1.1 ?_
      refine rn_aload_n (q := 0) 0 rfl zd_X6_copy_3.1.1.2.1 ?_
      refine rn_getR zf_X6_21 (Or.inr ⟨_, rfl⟩) k_a0 (zx_6_3 hW k_a0) zd_X6_copy_3.1.1.2.2 ?_
      refine rn_iload_n (q := 2) 2 rfl zd_X6_copy_3.1.2.1 ?_
      refine rn_aload_n (q := 1) 1 rfl zd_X6_copy_3.1.2.2.1 ?_
      refine rn_getR zf_X6_21 (Or.inr ⟨_, rfl⟩) k_a1 (zx_6_3 hW k_a1) zd_X6_copy_3.1.2.2.2 ?_
      refine rn_iload_n (q := 2) 2 rfl zd_X6_copy_3.2.1.1 ?_
      obtain ⟨hc16, h⟩ := zck_e h
      refine rn_lald (zw_6_3 hW k_a1) hc16 zd_X6_copy_3.2.1.2.1 ?_
      obtain ⟨hc17, h⟩ := zck_e h
      obtain ⟨L18, hL18, h⟩ := zlt_e h
      refine rn_last hL18 (zw_6_3 hW k_a0) hc17 zd_X6_copy_3.2.1.2.2 ?_
      refine rn_iinc (v := (x2 + 1)) (ls' := [(2, .int (x2 + 1)), (0, .ref a0), (1, .ref a1)]) 2 rfl rfl (by decide) rfl zd_X6_copy_3.2.2.1 ?_
      refine rn_goto (tgt := 34) zd_X6_copy_3.2.2.2.1 rfl ?_
      cases h
      exact rn_sub (ls' := [(0, .ref a0), (1, .ref a1), (2, .int (x2 + 1))]) [1, 2, 0] rfl hk
def n_X6_copy (R : zR) (M : zM) (L : zL) (a0 : Nat) (a1 : Nat) : Option (zM × zL) :=
  zlt (zup M a0 4 (M a1 4)) fun M1 =>
  zlt (zup M1 a0 5 (M1 a1 5)) fun M2 =>
  zlt (zup M2 a0 6 (M2 a1 6)) fun M3 =>
  zlt (zup M3 a0 7 (M3 a1 7)) fun M4 =>
  zbd (zloop zN (fun v => nb_X6_copy_34 R v.2.1 v.2.2 a0 a1 v.1) ((0 : Int32), M4, L)) fun e19 =>
  some (e19.1, e19.2)
set_option maxRecDepth 4000 in
theorem ok_X6_copy {G : zG} {K : zK} {R : zR} {M : zM} {L : zL} (hW : zWT R K) {a0 : Nat} {a1 : Nat} (k_a0 : K[a0]? = some (6, 8)) (k_a1 : K[a1]? = some (6, 8)) {M' : zM} {L' : zL} (h : n_X6_copy R M L a0 a1 = some (M', L')) : Rm G mt_X6_copy [.ref a0, .ref a1] (M, L, R, K) none (M', L', R, K) := by
  refine rm_rn rfl rfl (Nat.le_of_ble_eq_true rfl) ?_
  show Rn G mt_X6_copy 0 [(0, .ref a0), (1, .ref a1)] [] (M, L, R, K) none (M', L', R, K)
  unfold n_X6_copy at h
  refine rn_aload_n (q := 0) 0 rfl zd_X6_copy_0.1.1.1.1 ?_
  refine rn_aload_n (q := 1) 1 rfl zd_X6_copy_0.1.1.1.2 ?_
  refine rn_getI zf_X6_25 (Or.inl rfl) k_a1 zd_X6_copy_0.1.1.2.1 ?_
  obtain ⟨M1, hM1, h⟩ := zlt_e h
  refine rn_putI hM1 zf_X6_25 k_a0 zd_X6_copy_0.1.1.2.2 ?_
  refine rn_aload_n (q := 0) 0 rfl zd_X6_copy_0.1.2.1.1 ?_
  refine rn_aload_n (q := 1) 1 rfl zd_X6_copy_0.1.2.1.2 ?_
  refine rn_getI zf_X6_29 (Or.inl rfl) k_a1 zd_X6_copy_0.1.2.2.1 ?_
  obtain ⟨M2, hM2, h⟩ := zlt_e h
  refine rn_putI hM2 zf_X6_29 k_a0 zd_X6_copy_0.1.2.2.2 ?_
  refine rn_aload_n (q := 0) 0 rfl zd_X6_copy_0.2.1.1.1 ?_
  refine rn_aload_n (q := 1) 1 rfl zd_X6_copy_0.2.1.1.2 ?_
  refine rn_getI zf_X6_32 (Or.inl rfl) k_a1 zd_X6_copy_0.2.1.2.1 ?_
  obtain ⟨M3, hM3, h⟩ := zlt_e h
  refine rn_putI hM3 zf_X6_32 k_a0 zd_X6_copy_0.2.1.2.2 ?_
  refine rn_aload_n (q := 0) 0 rfl zd_X6_copy_0.2.2.1.1 ?_
  refine rn_aload_n (q := 1) 1 rfl zd_X6_copy_0.2.2.1.2 ?_
  refine rn_getI zf_X6_35 (Or.inl rfl) k_a1 zd_X6_copy_0.2.2.2.1 ?_
  obtain ⟨M4, hM4, h⟩ := zlt_e h
  refine rn_putI hM4 zf_X6_35 k_a0 zd_X6_copy_0.2.2.2.2 ?_
  refine rn_iconst (v := 0) zd_X6_copy_1.1.1.1.1 rfl ?_
  refine rn_istore_n (q := 2) (ls' := [(2, .int (0 : Int32)), (0, .ref a0), (1, .ref a1)]) (by decide) rfl zd_X6_copy_1.1.1.1.2 ?_
  obtain ⟨e19, he19, h⟩ := zbd_e h
  refine rn_sub (ls' := [(0, .ref a0), (1, .ref a1), (2, .int (0 : Int32))]) [1, 2, 0] rfl (zloop_ok (P := P_X6_copy_34 G K R a0 a1 none (M', L', R, K)) (Q := Q_X6_copy_34 G K R a0 a1 none (M', L', R, K)) (fun v x hx hq => ok_b_X6_copy_34 hW k_a0 k_a1 hx hq) _ _ _ he19 ?_)
  show Rn G mt_X6_copy 102 [] [] (e19.1, e19.2, R, K) none (M', L', R, K)
  cases h
  exact rn_vret zd_X6_copy_3.2.2.2.2 rfl
def f_X6_has (M : zM) (a0 : Nat) (x1 : Int32) : Option (Int32) :=
  if x1 < 0 then (
    some (0 : Int32)
  ) else (
    if (M a0 4) ≤ x1 then (
      some (0 : Int32)
    ) else (
      if (10 : Int32) ≤ x1 then (
        some (0 : Int32)
      ) else (
        some (1 : Int32)
      )
    )
  )
set_option maxRecDepth 4000 in
theorem ok_X6_has {G : zG} {K : zK} {R : zR} {M : zM} {L : zL} (hW : zWT R K) {a0 : Nat} {x1 : Int32} (k_a0 : K[a0]? = some (6, 8)) {r' : Int32} (h : f_X6_has M a0 x1 = some r') : Rm G mt_X6_has [.ref a0, .int x1] (M, L, R, K) (some (.int r')) (M, L, R, K) := by
  refine rm_rn rfl rfl (Nat.le_of_ble_eq_true rfl) ?_
  show Rn G mt_X6_has 0 [(0, .ref a0), (1, .int x1)] [] (M, L, R, K) (some (.int r')) (M, L, R, K)
  unfold f_X6_has at h
  refine rn_iload_n (q := 1) 1 rfl zd_X6_has_0.1.1.1 ?_
  rcases zif_e h with ⟨hc1, h⟩ | ⟨hc1, h⟩
  · refine rn_if_lt_t (tgt := 22) hc1 zd_X6_has_0.1.1.2.1 rfl ?_
    refine rn_iconst (v := 0) zd_X6_has_0.2.2.2.1 rfl ?_
    cases h
    exact rn_zret zd_X6_has_0.2.2.2.2 rfl rfl
  · refine rn_if_lt_f (tgt := 22) hc1 zd_X6_has_0.1.1.2.1 rfl ?_
    refine rn_iload_n (q := 1) 1 rfl zd_X6_has_0.1.1.2.2 ?_
    refine rn_aload_n (q := 0) 0 rfl zd_X6_has_0.1.2.1 ?_
    refine rn_getI zf_X6_25 (Or.inl rfl) k_a0 zd_X6_has_0.1.2.2.1 ?_
    rcases zif_e h with ⟨hc2, h⟩ | ⟨hc2, h⟩
    · refine rn_icmp_ge_t (tgt := 22) hc2 zd_X6_has_0.1.2.2.2 rfl ?_
      refine rn_iconst (v := 0) zd_X6_has_0.2.2.2.1 rfl ?_
      cases h
      exact rn_zret zd_X6_has_0.2.2.2.2 rfl rfl
    · refine rn_icmp_ge_f (tgt := 22) hc2 zd_X6_has_0.1.2.2.2 rfl ?_
      refine rn_iload_n (q := 1) 1 rfl zd_X6_has_0.2.1.1 ?_
      refine rn_bipush (v := 10) zd_X6_has_0.2.1.2.1 rfl ?_
      rcases zif_e h with ⟨hc3, h⟩ | ⟨hc3, h⟩
      · refine rn_icmp_ge_t (tgt := 22) hc3 zd_X6_has_0.2.1.2.2 rfl ?_
        refine rn_iconst (v := 0) zd_X6_has_0.2.2.2.1 rfl ?_
        cases h
        exact rn_zret zd_X6_has_0.2.2.2.2 rfl rfl
      · refine rn_icmp_ge_f (tgt := 22) hc3 zd_X6_has_0.2.1.2.2 rfl ?_
        refine rn_iconst (v := 1) zd_X6_has_0.2.2.1.1 rfl ?_
        refine rn_goto (tgt := 23) zd_X6_has_0.2.2.1.2 rfl ?_
        cases h
        exact rn_zret zd_X6_has_0.2.2.2.2 rfl rfl
def f_X6_purseOf (R : zR) (M : zM) (a0 : Nat) (x1 : Int32) : Option (Int32) :=
  zbd (f_X6_has M a0 x1) fun r1 =>
  if r1 = 0 then (
    some (0 : Int32)
  ) else (
    zck (zin x1 10) <|
    some (M (R a0 0) (ztn x1))
  )
set_option maxRecDepth 4000 in
theorem ok_X6_purseOf {G : zG} {K : zK} {R : zR} {M : zM} {L : zL} (hW : zWT R K) {a0 : Nat} {x1 : Int32} (k_a0 : K[a0]? = some (6, 8)) {r' : Int32} (h : f_X6_purseOf R M a0 x1 = some r') : Rm G mt_X6_purseOf [.ref a0, .int x1] (M, L, R, K) (some (.int r')) (M, L, R, K) := by
  refine rm_rn rfl rfl (Nat.le_of_ble_eq_true rfl) ?_
  show Rn G mt_X6_purseOf 0 [(0, .ref a0), (1, .int x1)] [] (M, L, R, K) (some (.int r')) (M, L, R, K)
  unfold f_X6_purseOf at h
  refine rn_aload_n (q := 0) 0 rfl zd_X6_purseOf_0.1.1.1 ?_
  refine rn_iload_n (q := 1) 1 rfl zd_X6_purseOf_0.1.1.2 ?_
  obtain ⟨r1, h2, h⟩ := zbd_e h
  refine rn_callVi (As := [.int x1]) (rest := []) zl_X6_48 zm_X6_has ⟨by decide, by decide⟩ (ci := 6) rfl rfl (by decide) k_a0 rfl rfl (Nat.le_of_ble_eq_true rfl) zd_X6_purseOf_0.1.2.1 (ok_X6_has hW k_a0 h2) ?_
  rcases zif_e h with ⟨hc3, h⟩ | ⟨hc3, h⟩
  · refine rn_if_eq_t (tgt := 17) hc3 zd_X6_purseOf_0.1.2.2.1 rfl ?_
    refine rn_iconst (v := 0) zd_X6_purseOf_0.2.2.2.1 rfl ?_
    cases h
    exact rn_iret zd_X6_purseOf_0.2.2.2.2 rfl
  · refine rn_if_eq_f (tgt := 17) hc3 zd_X6_purseOf_0.1.2.2.1 rfl ?_
    refine rn_aload_n (q := 0) 0 rfl zd_X6_purseOf_0.1.2.2.2 ?_
    refine rn_getR zf_X6_9 (Or.inr ⟨_, rfl⟩) k_a0 (zx_6_0 hW k_a0) zd_X6_purseOf_0.2.1.1 ?_
    refine rn_iload_n (q := 1) 1 rfl zd_X6_purseOf_0.2.1.2.1 ?_
    obtain ⟨hc4, h⟩ := zck_e h
    refine rn_iald (zw_6_0 hW k_a0) hc4 zd_X6_purseOf_0.2.1.2.2 ?_
    refine rn_goto (tgt := 18) zd_X6_purseOf_0.2.2.1 rfl ?_
    cases h
    exact rn_iret zd_X6_purseOf_0.2.2.2.2 rfl
def n_X6_pay (R : zR) (M : zM) (L : zL) (a0 : Nat) (x1 : Int32) (x2 : Int32) : Option (zM × zL) :=
  zbd (f_X6_has M a0 x1) fun r1 =>
  if r1 = 0 then (
    some (M, L)
  ) else (
    zck (zin x1 10) <|
    zck (zin x1 10) <|
    zlt (zup M (R a0 0) (ztn x1) ((M (R a0 0) (ztn x1)) - x2)) fun M6 =>
    zlt (zup M6 a0 5 ((M6 a0 5) + x2)) fun M7 =>
    zck (zin x1 10) <|
    zlt (zup M7 (R a0 2) (ztn x1) x2) fun M9 =>
    zck (zin x1 10) <|
    zck (zin x1 10) <|
    zlt (zupL L (R a0 3) (ztn x1) ((L (R a0 3) (ztn x1)) + x2.toInt64)) fun L12 =>
    some (M9, L12)
  )
set_option maxRecDepth 4000 in
theorem ok_X6_pay {G : zG} {K : zK} {R : zR} {M : zM} {L : zL} (hW : zWT R K) {a0 : Nat} {x1 : Int32} {x2 : Int32} (k_a0 : K[a0]? = some (6, 8)) {M' : zM} {L' : zL} (h : n_X6_pay R M L a0 x1 x2 = some (M', L')) : Rm G mt_X6_pay [.ref a0, .int x1, .int x2] (M, L, R, K) none (M', L', R, K) := by
  refine rm_rn rfl rfl (Nat.le_of_ble_eq_true rfl) ?_
  show Rn G mt_X6_pay 0 [(0, .ref a0), (1, .int x1), (2, .int x2)] [] (M, L, R, K) none (M', L', R, K)
  unfold n_X6_pay at h
  refine rn_aload_n (q := 0) 0 rfl zd_X6_pay_0.1.1.1.1 ?_
  refine rn_iload_n (q := 1) 1 rfl zd_X6_pay_0.1.1.1.2 ?_
  obtain ⟨r1, h2, h⟩ := zbd_e h
  refine rn_callVi (As := [.int x1]) (rest := []) zl_X6_48 zm_X6_has ⟨by decide, by decide⟩ (ci := 6) rfl rfl (by decide) k_a0 rfl rfl (Nat.le_of_ble_eq_true rfl) zd_X6_pay_0.1.1.2.1 (ok_X6_has hW k_a0 h2) ?_
  rcases zif_e h with ⟨hc3, h⟩ | ⟨hc3, h⟩
  · refine rn_if_ne_f (tgt := 9) hc3 zd_X6_pay_0.1.1.2.2 rfl ?_
    cases h
    exact rn_vret zd_X6_pay_0.1.2.1.1 rfl
  · refine rn_if_ne_t (tgt := 9) hc3 zd_X6_pay_0.1.1.2.2 rfl ?_
    refine rn_aload_n (q := 0) 0 rfl zd_X6_pay_0.1.2.1.2 ?_
    refine rn_getR zf_X6_9 (Or.inr ⟨_, rfl⟩) k_a0 (zx_6_0 hW k_a0) zd_X6_pay_0.1.2.2.1 ?_
    refine rn_iload_n (q := 1) 1 rfl zd_X6_pay_0.1.2.2.2 ?_
    refine rn_dup2 zd_X6_pay_0.2.1.1.1 rfl rfl ?_
    obtain ⟨hc4, h⟩ := zck_e h
    refine rn_iald (zw_6_0 hW k_a0) hc4 zd_X6_pay_0.2.1.1.2 ?_
    refine rn_iload_n (q := 2) 2 rfl zd_X6_pay_0.2.1.2.1 ?_
    refine rn_isub zd_X6_pay_0.2.1.2.2 ?_
    obtain ⟨hc5, h⟩ := zck_e h
    obtain ⟨M6, hM6, h⟩ := zlt_e h
    refine rn_iast hM6 (zw_6_0 hW k_a0) hc5 zd_X6_pay_0.2.2.1.1 ?_
    refine rn_aload_n (q := 0) 0 rfl zd_X6_pay_0.2.2.1.2 ?_
    refine rn_dup zd_X6_pay_0.2.2.2.1 rfl ?_
    refine rn_getI zf_X6_29 (Or.inl rfl) k_a0 zd_X6_pay_0.2.2.2.2 ?_
    refine rn_iload_n (q := 2) 2 rfl zd_X6_pay_1.1.1.1.1 ?_
    refine rn_iadd zd_X6_pay_1.1.1.1.2 ?_
    obtain ⟨M7, hM7, h⟩ := zlt_e h
    refine rn_putI hM7 zf_X6_29 k_a0 zd_X6_pay_1.1.1.2.1 ?_
    refine rn_aload_n (q := 0) 0 rfl zd_X6_pay_1.1.1.2.2 ?_
    refine rn_getR zf_X6_18 (Or.inr ⟨_, rfl⟩) k_a0 (zx_6_2 hW k_a0) zd_X6_pay_1.1.2.1.1 ?_
    refine rn_iload_n (q := 1) 1 rfl zd_X6_pay_1.1.2.1.2 ?_
    refine rn_iload_n (q := 2) 2 rfl zd_X6_pay_1.1.2.2.1 ?_
    obtain ⟨hc8, h⟩ := zck_e h
    obtain ⟨M9, hM9, h⟩ := zlt_e h
    refine rn_iast hM9 (zw_6_2 hW k_a0) hc8 zd_X6_pay_1.1.2.2.2 ?_
    refine rn_aload_n (q := 0) 0 rfl zd_X6_pay_1.2.1.1.1 ?_
    refine rn_getR zf_X6_21 (Or.inr ⟨_, rfl⟩) k_a0 (zx_6_3 hW k_a0) zd_X6_pay_1.2.1.1.2 ?_
    refine rn_iload_n (q := 1) 1 rfl zd_X6_pay_1.2.1.2.1 ?_
    refine rn_dup2 zd_X6_pay_1.2.1.2.2 rfl rfl ?_
    obtain ⟨hc10, h⟩ := zck_e h
    refine rn_lald (zw_6_3 hW k_a0) hc10 zd_X6_pay_1.2.2.1.1 ?_
    refine rn_iload_n (q := 2) 2 rfl zd_X6_pay_1.2.2.1.2 ?_
    refine rn_i2l zd_X6_pay_1.2.2.2.1 ?_
    refine rn_ladd zd_X6_pay_1.2.2.2.2 ?_
    obtain ⟨hc11, h⟩ := zck_e h
    obtain ⟨L12, hL12, h⟩ := zlt_e h
    refine rn_last hL12 (zw_6_3 hW k_a0) hc11 zd_X6_pay_2.1 ?_
    cases h
    exact rn_vret zd_X6_pay_2.2 rfl
def f_X3_combined (x0 : Int32) (x1 : Int32) (x2 : Int32) : Option (Int32) :=
  if x0 = 42 then (
    some (x1 * x2)
  ) else (
    if x0 = 43 then (
      some (x1 + x2)
    ) else (
      if x0 = 44 then (
        if x2 = 0 then (
          some (0 : Int32)
        ) else (
          zck (znz x2) <|
          some (x1 / x2)
        )
      ) else (
        if x0 = 45 then (
          some (x1 - x2)
        ) else (
          if x2 = 0 then (
            some (0 : Int32)
          ) else (
            zck (znz x2) <|
            some (x1 / x2)
          )
        )
      )
    )
  )
set_option maxRecDepth 4000 in
theorem ok_X3_combined {G : zG} {K : zK} {R : zR} {M : zM} {L : zL} (hW : zWT R K) {x0 : Int32} {x1 : Int32} {x2 : Int32} {r' : Int32} (h : f_X3_combined x0 x1 x2 = some r') : Rm G mt_X3_combined [.int x0, .int x1, .int x2] (M, L, R, K) (some (.int r')) (M, L, R, K) := by
  refine rm_rn rfl rfl (Nat.le_of_ble_eq_true rfl) ?_
  show Rn G mt_X3_combined 0 [(0, .int x0), (1, .int x1), (2, .int x2)] [] (M, L, R, K) (some (.int r')) (M, L, R, K)
  unfold f_X3_combined at h
  refine rn_iload_n (q := 0) 0 rfl zd_X3_combined_0.1.1.1.1 ?_
  rcases zif_e h with ⟨hc1, h⟩ | ⟨hc1, h⟩
  · refine rn_tblIn (v := 42) (tgt := 40) zd_X3_combined_0.1.1.1.2 (by rw [hc1]; rfl) (by decide) (by decide) rfl rfl ?_
    refine rn_iload_n (q := 1) 1 rfl zd_X3_combined_0.2.1.2.1 ?_
    refine rn_iload_n (q := 2) 2 rfl zd_X3_combined_0.2.1.2.2 ?_
    refine rn_imul zd_X3_combined_0.2.2.1.1 ?_
    cases h
    exact rn_iret zd_X3_combined_0.2.2.1.2 rfl
  · rcases zif_e h with ⟨hc2, h⟩ | ⟨hc2, h⟩
    · refine rn_tblIn (v := 43) (tgt := 32) zd_X3_combined_0.1.1.1.2 (by rw [hc2]; rfl) (by decide) (by decide) rfl rfl ?_
      refine rn_iload_n (q := 1) 1 rfl zd_X3_combined_0.1.1.2.1 ?_
      refine rn_iload_n (q := 2) 2 rfl zd_X3_combined_0.1.1.2.2 ?_
      refine rn_iadd zd_X3_combined_0.1.2.1.1 ?_
      cases h
      exact rn_iret zd_X3_combined_0.1.2.1.2 rfl
    · rcases zif_e h with ⟨hc3, h⟩ | ⟨hc3, h⟩
      · refine rn_tblIn (v := 44) (tgt := 44) zd_X3_combined_0.1.1.1.2 (by rw [hc3]; rfl) (by decide) (by decide) rfl rfl ?_
        refine rn_iload_n (q := 2) 2 rfl zd_X3_combined_0.2.2.2.1 ?_
        rcases zif_e h with ⟨hc5, h⟩ | ⟨hc5, h⟩
        · refine rn_if_ne_f (tgt := 52) hc5 zd_X3_combined_0.2.2.2.2 rfl ?_
          refine rn_iconst (v := 0) zd_X3_combined_1.1.1 rfl ?_
          refine rn_goto (tgt := 55) zd_X3_combined_1.1.2.1 rfl ?_
          cases h
          exact rn_iret zd_X3_combined_1.2.2.2 rfl
        · refine rn_if_ne_t (tgt := 52) hc5 zd_X3_combined_0.2.2.2.2 rfl ?_
          refine rn_iload_n (q := 1) 1 rfl zd_X3_combined_1.1.2.2 ?_
          refine rn_iload_n (q := 2) 2 rfl zd_X3_combined_1.2.1 ?_
          obtain ⟨hc6, h⟩ := zck_e h
          refine rn_idiv zd_X3_combined_1.2.2.1 (znz_e hc6) ?_
          cases h
          exact rn_iret zd_X3_combined_1.2.2.2 rfl
      · rcases zif_e h with ⟨hc4, h⟩ | ⟨hc4, h⟩
        · refine rn_tblIn (v := 45) (tgt := 36) zd_X3_combined_0.1.1.1.2 (by rw [hc4]; rfl) (by decide) (by decide) rfl rfl ?_
          refine rn_iload_n (q := 1) 1 rfl zd_X3_combined_0.1.2.2.1 ?_
          refine rn_iload_n (q := 2) 2 rfl zd_X3_combined_0.1.2.2.2 ?_
          refine rn_isub zd_X3_combined_0.2.1.1.1 ?_
          cases h
          exact rn_iret zd_X3_combined_0.2.1.1.2 rfl
        · have ht : x0.toInt < 42 ∨ 45 < x0.toInt := by
            have q0 := zto (n := 42) hc1 rfl
            have q1 := zto (n := 43) hc2 rfl
            have q2 := zto (n := 44) hc3 rfl
            have q3 := zto (n := 45) hc4 rfl
            omega
          refine rn_tblOut (tgt := 44) zd_X3_combined_0.1.1.1.2 ht rfl ?_
          refine rn_iload_n (q := 2) 2 rfl zd_X3_combined_0.2.2.2.1 ?_
          rcases zif_e h with ⟨hc7, h⟩ | ⟨hc7, h⟩
          · refine rn_if_ne_f (tgt := 52) hc7 zd_X3_combined_0.2.2.2.2 rfl ?_
            refine rn_iconst (v := 0) zd_X3_combined_1.1.1 rfl ?_
            refine rn_goto (tgt := 55) zd_X3_combined_1.1.2.1 rfl ?_
            cases h
            exact rn_iret zd_X3_combined_1.2.2.2 rfl
          · refine rn_if_ne_t (tgt := 52) hc7 zd_X3_combined_0.2.2.2.2 rfl ?_
            refine rn_iload_n (q := 1) 1 rfl zd_X3_combined_1.1.2.2 ?_
            refine rn_iload_n (q := 2) 2 rfl zd_X3_combined_1.2.1 ?_
            obtain ⟨hc8, h⟩ := zck_e h
            refine rn_idiv zd_X3_combined_1.2.2.1 (znz_e hc8) ?_
            cases h
            exact rn_iret zd_X3_combined_1.2.2.2 rfl
abbrev P_X3_value_7 (G : zG) (K : zK) (R : zR) (L : zL) (a0 : Nat) (a1 : Nat) (r : Option Value) (S' : zS) (v : Int32 × Int32 × Int32 × zM) : Prop := Rn G mt_X3_value 7 [(0, .ref a0), (1, .ref a1), (2, .int v.1), (3, .int v.2.1), (4, .int v.2.2.1)] [] (v.2.2.2, L, R, K) r S'
abbrev Q_X3_value_7 (G : zG) (K : zK) (R : zR) (L : zL) (a0 : Nat) (a1 : Nat) (r : Option Value) (S' : zS) : (Int32 × zM) ⊕ (zM) ⊕ (zM) ⊕ (zM) ⊕ (zM) ⊕ (zM) → Prop := (Sum.elim (fun e => Rn G mt_X3_value 62 [(0, .ref a0), (2, .int e.1)] [] (e.2, L, R, K) r S') (Sum.elim (fun e => Rn G mt_X3_value 109 [] [] (e, L, R, K) r S') (Sum.elim (fun e => Rn G mt_X3_value 124 [] [] (e, L, R, K) r S') (Sum.elim (fun e => Rn G mt_X3_value 167 [] [] (e, L, R, K) r S') (Sum.elim (fun e => Rn G mt_X3_value 223 [] [] (e, L, R, K) r S') (fun e => Rn G mt_X3_value 251 [] [] (e, L, R, K) r S'))))))
def j_X3_value_149 (R : zR) (M : zM) (a0 : Nat) (a1 : Nat) (x2 : Int32) (x3 : Int32) (x4 : Int32) (b0 : Nat) (s1 : Int32) (s2 : Int32) : Option ((Int32 × Int32 × Int32 × zM) ⊕ ((Int32 × zM) ⊕ (zM) ⊕ (zM) ⊕ (zM) ⊕ (zM) ⊕ (zM))) :=
  zck (zin s1 16) <|
  zlt (zup M b0 (ztn s1) s2) fun M15 =>
  some (.inl (x2, x3, (x4 + 1), M15))
set_option maxRecDepth 4000 in
theorem ok_j_X3_value_149 {G : zG} {K : zK} {R : zR} {M : zM} {L : zL} (hW : zWT R K) {a0 : Nat} {a1 : Nat} {x2 : Int32} {x3 : Int32} {x4 : Int32} {b0 : Nat} {s1 : Int32} {s2 : Int32} (k_a0 : K[a0]? = some (3, 5)) (k_a1 : K[a1]? = some (20, 7)) (k_b0 : K[b0]? = some (20, 16)) {r : Option Value} {S' : zS} {x : (Int32 × Int32 × Int32 × zM) ⊕ ((Int32 × zM) ⊕ (zM) ⊕ (zM) ⊕ (zM) ⊕ (zM) ⊕ (zM))} (h : j_X3_value_149 R M a0 a1 x2 x3 x4 b0 s1 s2 = some x) (hk : Sum.elim (P_X3_value_7 G K R L a0 a1 r S') (Q_X3_value_7 G K R L a0 a1 r S') x) : Rn G mt_X3_value 149 [(0, .ref a0), (1, .ref a1), (2, .int x2), (3, .int x3), (4, .int x4)] [.int s2, .int s1, .ref b0] (M, L, R, K) r S' := by
  unfold j_X3_value_149 at h
  obtain ⟨hc14, h⟩ := zck_e h
  obtain ⟨M15, hM15, h⟩ := zlt_e h
  refine rn_iast hM15 k_b0 hc14 zd_X3_value_5.1.2.1.1 ?_
  refine rn_goto (tgt := 245) zd_X3_value_5.1.2.1.2 rfl ?_
  refine rn_iinc (v := (x4 + 1)) (ls' := [(4, .int (x4 + 1)), (0, .ref a0), (1, .ref a1), (2, .int x2), (3, .int x3)]) 4 rfl rfl (by decide) rfl zd_X3_value_8.2.2.1.1 ?_
  refine rn_goto (tgt := 7) zd_X3_value_8.2.2.1.2 rfl ?_
  cases h
  exact rn_sub (ls' := [(0, .ref a0), (1, .ref a1), (2, .int x2), (3, .int x3), (4, .int (x4 + 1))]) [1, 2, 3, 4, 0] rfl hk
def j_X3_value_126 (R : zR) (M : zM) (a0 : Nat) (a1 : Nat) (x2 : Int32) (x3 : Int32) (x4 : Int32) (x5 : Int32) (x6 : Int32) : Option ((Int32 × Int32 × Int32 × zM) ⊕ ((Int32 × zM) ⊕ (zM) ⊕ (zM) ⊕ (zM) ⊕ (zM) ⊕ (zM))) :=
  if x5 = (2 : Int32) then (
    zck (zin x6 7) <|
    j_X3_value_149 R M a0 a1 (x2 + 1) x3 x4 (R a0 2) x2 (M a1 (ztn x6))
  ) else (
    j_X3_value_149 R M a0 a1 (x2 + 1) x3 x4 (R a0 2) x2 x6
  )
set_option maxRecDepth 4000 in
theorem ok_j_X3_value_126 {G : zG} {K : zK} {R : zR} {M : zM} {L : zL} (hW : zWT R K) {a0 : Nat} {a1 : Nat} {x2 : Int32} {x3 : Int32} {x4 : Int32} {x5 : Int32} {x6 : Int32} (k_a0 : K[a0]? = some (3, 5)) (k_a1 : K[a1]? = some (20, 7)) {r : Option Value} {S' : zS} {x : (Int32 × Int32 × Int32 × zM) ⊕ ((Int32 × zM) ⊕ (zM) ⊕ (zM) ⊕ (zM) ⊕ (zM) ⊕ (zM))} (h : j_X3_value_126 R M a0 a1 x2 x3 x4 x5 x6 = some x) (hk : Sum.elim (P_X3_value_7 G K R L a0 a1 r S') (Q_X3_value_7 G K R L a0 a1 r S') x) : Rn G mt_X3_value 126 [(0, .ref a0), (1, .ref a1), (2, .int x2), (3, .int x3), (4, .int x4), (5, .int x5), (6, .int x6)] [] (M, L, R, K) r S' := by
  unfold j_X3_value_126 at h
  refine rn_aload_n (q := 0) 0 rfl zd_X3_value_4.2.1.1.1 ?_
  refine rn_getR zf_X3_18 (Or.inr ⟨_, rfl⟩) k_a0 (zx_3_2 hW k_a0) zd_X3_value_4.2.1.1.2 ?_
  refine rn_iload_n (q := 2) 2 rfl zd_X3_value_4.2.1.2.1 ?_
  refine rn_iinc (v := (x2 + 1)) (ls' := [(2, .int (x2 + 1)), (0, .ref a0), (1, .ref a1), (3, .int x3), (4, .int x4), (5, .int x5), (6, .int x6)]) 2 rfl rfl (by decide) rfl zd_X3_value_4.2.1.2.2 ?_
  refine rn_iload 5 rfl zd_X3_value_4.2.2.1.1 ?_
  refine rn_iconst (v := 2) zd_X3_value_4.2.2.1.2 rfl ?_
  rcases zif_e h with ⟨hc13, h⟩ | ⟨hc13, h⟩
  · refine rn_icmp_ne_f (tgt := 147) hc13 zd_X3_value_4.2.2.2.1 rfl ?_
    refine rn_aload_n (q := 1) 2 rfl zd_X3_value_4.2.2.2.2 ?_
    refine rn_iload 6 rfl zd_X3_value_5.1.1.1.1 ?_
    obtain ⟨hc16, h⟩ := zck_e h
    refine rn_iald k_a1 hc16 zd_X3_value_5.1.1.1.2 ?_
    refine rn_goto (tgt := 149) zd_X3_value_5.1.1.2.1 rfl ?_
    exact rn_sub (ls' := [(0, .ref a0), (1, .ref a1), (2, .int (x2 + 1)), (3, .int x3), (4, .int x4)]) [1, 2, 0, 3, 4] rfl (ok_j_X3_value_149 hW k_a0 k_a1 (zw_3_2 hW k_a0) h hk)
  · refine rn_icmp_ne_t (tgt := 147) hc13 zd_X3_value_4.2.2.2.1 rfl ?_
    refine rn_iload 6 rfl zd_X3_value_5.1.1.2.2 ?_
    exact rn_sub (ls' := [(0, .ref a0), (1, .ref a1), (2, .int (x2 + 1)), (3, .int x3), (4, .int x4)]) [1, 2, 0, 3, 4] rfl (ok_j_X3_value_149 hW k_a0 k_a1 (zw_3_2 hW k_a0) h hk)
def j_X3_value_91 (R : zR) (M : zM) (a0 : Nat) (a1 : Nat) (x2 : Int32) (x3 : Int32) (x4 : Int32) (x5 : Int32) (x6 : Int32) : Option ((Int32 × Int32 × Int32 × zM) ⊕ ((Int32 × zM) ⊕ (zM) ⊕ (zM) ⊕ (zM) ⊕ (zM) ⊕ (zM))) :=
  if x2 < 0 then (
    some (.inr (.inr (.inl M)))
  ) else (
    if (16 : Int32) ≤ x2 then (
      some (.inr (.inr (.inl M)))
    ) else (
      if 0 ≤ x6 then (
        if x5 = (2 : Int32) then (
          if x6 < (7 : Int32) then (
            j_X3_value_126 R M a0 a1 x2 x3 x4 x5 x6
          ) else (
            some (.inr (.inr (.inr (.inl M))))
          )
        ) else (
          j_X3_value_126 R M a0 a1 x2 x3 x4 x5 x6
        )
      ) else (
        some (.inr (.inr (.inl M)))
      )
    )
  )
set_option maxRecDepth 4000 in
theorem ok_j_X3_value_91 {G : zG} {K : zK} {R : zR} {M : zM} {L : zL} (hW : zWT R K) {a0 : Nat} {a1 : Nat} {x2 : Int32} {x3 : Int32} {x4 : Int32} {x5 : Int32} {x6 : Int32} (k_a0 : K[a0]? = some (3, 5)) (k_a1 : K[a1]? = some (20, 7)) {r : Option Value} {S' : zS} {x : (Int32 × Int32 × Int32 × zM) ⊕ ((Int32 × zM) ⊕ (zM) ⊕ (zM) ⊕ (zM) ⊕ (zM) ⊕ (zM))} (h : j_X3_value_91 R M a0 a1 x2 x3 x4 x5 x6 = some x) (hk : Sum.elim (P_X3_value_7 G K R L a0 a1 r S') (Q_X3_value_7 G K R L a0 a1 r S') x) : Rn G mt_X3_value 91 [(0, .ref a0), (1, .ref a1), (2, .int x2), (3, .int x3), (4, .int x4), (5, .int x5), (6, .int x6)] [] (M, L, R, K) r S' := by
  unfold j_X3_value_91 at h
  refine rn_iload_n (q := 2) 2 rfl zd_X3_value_3.1.2.1.1 ?_
  rcases zif_e h with ⟨hc9, h⟩ | ⟨hc9, h⟩
  · refine rn_if_lt_t (tgt := 109) hc9 zd_X3_value_3.1.2.1.2 rfl ?_
    cases h
    exact rn_sub (ls' := []) [] rfl hk
  · refine rn_if_lt_f (tgt := 109) hc9 zd_X3_value_3.1.2.1.2 rfl ?_
    refine rn_iload_n (q := 2) 2 rfl zd_X3_value_3.1.2.2.1 ?_
    refine rn_aload_n (q := 0) 0 rfl zd_X3_value_3.1.2.2.2 ?_
    refine rn_getR zf_X3_18 (Or.inr ⟨_, rfl⟩) k_a0 (zx_3_2 hW k_a0) zd_X3_value_3.2.1.1.1 ?_
    refine rn_alen (v := 16) (zw_3_2 hW k_a0) (Or.inl rfl) rfl zd_X3_value_3.2.1.1.2 ?_
    rcases zif_e h with ⟨hc10, h⟩ | ⟨hc10, h⟩
    · refine rn_icmp_ge_t (tgt := 109) hc10 zd_X3_value_3.2.1.2.1 rfl ?_
      cases h
      exact rn_sub (ls' := []) [] rfl hk
    · refine rn_icmp_ge_f (tgt := 109) hc10 zd_X3_value_3.2.1.2.1 rfl ?_
      refine rn_iload 6 rfl zd_X3_value_3.2.1.2.2 ?_
      rcases zif_e h with ⟨hc11, h⟩ | ⟨hc11, h⟩
      · refine rn_if_ge_t (tgt := 111) hc11 zd_X3_value_3.2.2.1.1 rfl ?_
        refine rn_iload 5 rfl zd_X3_value_3.2.2.2.2 ?_
        refine rn_iconst (v := 2) zd_X3_value_4.1.1.1.1 rfl ?_
        rcases zif_e h with ⟨hc12, h⟩ | ⟨hc12, h⟩
        · refine rn_icmp_ne_f (tgt := 126) hc12 zd_X3_value_4.1.1.1.2 rfl ?_
          refine rn_iload 6 rfl zd_X3_value_4.1.1.2.1 ?_
          refine rn_aload_n (q := 1) 1 rfl zd_X3_value_4.1.1.2.2 ?_
          refine rn_alen (v := 7) k_a1 (Or.inl rfl) rfl zd_X3_value_4.1.2.1.1 ?_
          rcases zif_e h with ⟨hc17, h⟩ | ⟨hc17, h⟩
          · refine rn_icmp_lt_t (tgt := 126) hc17 zd_X3_value_4.1.2.1.2 rfl ?_
            exact rn_sub (ls' := [(0, .ref a0), (1, .ref a1), (2, .int x2), (3, .int x3), (4, .int x4), (5, .int x5), (6, .int x6)]) [0, 1, 2, 3, 4, 5, 6] rfl (ok_j_X3_value_126 hW k_a0 k_a1 h hk)
          · refine rn_icmp_lt_f (tgt := 126) hc17 zd_X3_value_4.1.2.1.2 rfl ?_
            cases h
            exact rn_sub (ls' := []) [] rfl hk
        · refine rn_icmp_ne_t (tgt := 126) hc12 zd_X3_value_4.1.1.1.2 rfl ?_
          exact rn_sub (ls' := [(0, .ref a0), (1, .ref a1), (2, .int x2), (3, .int x3), (4, .int x4), (5, .int x5), (6, .int x6)]) [0, 1, 2, 3, 4, 5, 6] rfl (ok_j_X3_value_126 hW k_a0 k_a1 h hk)
      · refine rn_if_ge_f (tgt := 111) hc11 zd_X3_value_3.2.2.1.1 rfl ?_
        cases h
        exact rn_sub (ls' := []) [] rfl hk
def j_X3_value_225 (R : zR) (M : zM) (a0 : Nat) (a1 : Nat) (x2 : Int32) (x3 : Int32) (x4 : Int32) (x5 : Int32) (x7 : Int32) (x8 : Int32) : Option ((Int32 × Int32 × Int32 × zM) ⊕ ((Int32 × zM) ⊕ (zM) ⊕ (zM) ⊕ (zM) ⊕ (zM) ⊕ (zM))) :=
  zbd (f_X3_combined x5 x8 x7) fun r25 =>
  zck (zin ((x2 + (-1)) - (1 : Int32)) 16) <|
  zlt (zup M (R a0 2) (ztn ((x2 + (-1)) - (1 : Int32))) r25) fun M28 =>
  some (.inl ((x2 + (-1)), x3, (x4 + 1), M28))
set_option maxRecDepth 4000 in
theorem ok_j_X3_value_225 {G : zG} {K : zK} {R : zR} {M : zM} {L : zL} (hW : zWT R K) {a0 : Nat} {a1 : Nat} {x2 : Int32} {x3 : Int32} {x4 : Int32} {x5 : Int32} {x7 : Int32} {x8 : Int32} (k_a0 : K[a0]? = some (3, 5)) (k_a1 : K[a1]? = some (20, 7)) {r : Option Value} {S' : zS} {x : (Int32 × Int32 × Int32 × zM) ⊕ ((Int32 × zM) ⊕ (zM) ⊕ (zM) ⊕ (zM) ⊕ (zM) ⊕ (zM))} (h : j_X3_value_225 R M a0 a1 x2 x3 x4 x5 x7 x8 = some x) (hk : Sum.elim (P_X3_value_7 G K R L a0 a1 r S') (Q_X3_value_7 G K R L a0 a1 r S') x) : Rn G mt_X3_value 225 [(0, .ref a0), (1, .ref a1), (2, .int x2), (3, .int x3), (4, .int x4), (5, .int x5), (7, .int x7), (8, .int x8)] [] (M, L, R, K) r S' := by
  unfold j_X3_value_225 at h
  refine rn_iinc (v := (x2 + (-1))) (ls' := [(2, .int (x2 + (-1))), (0, .ref a0), (1, .ref a1), (3, .int x3), (4, .int x4), (5, .int x5), (7, .int x7), (8, .int x8)]) 2 rfl (congrArg (fun z => x2 + z) (show Int32.ofInt (-1) = -1 by decide)) (by decide) rfl zd_X3_value_7.2.2.2.2 ?_
  refine rn_aload_n (q := 0) 1 rfl zd_X3_value_8.1.1.1 ?_
  refine rn_getR zf_X3_18 (Or.inr ⟨_, rfl⟩) k_a0 (zx_3_2 hW k_a0) zd_X3_value_8.1.1.2.1 ?_
  refine rn_iload_n (q := 2) 0 rfl zd_X3_value_8.1.1.2.2 ?_
  refine rn_iconst (v := 1) zd_X3_value_8.1.2.1.1 rfl ?_
  refine rn_isub zd_X3_value_8.1.2.1.2 ?_
  refine rn_iload 5 rfl zd_X3_value_8.1.2.2.1 ?_
  refine rn_iload 7 rfl zd_X3_value_8.1.2.2.2 ?_
  refine rn_iload 6 rfl zd_X3_value_8.2.1.1 ?_
  obtain ⟨r25, h26, h⟩ := zbd_e h
  refine rn_callSi (As := [.int x5, .int x8, .int x7]) (rest := [.int ((x2 + (-1)) - (1 : Int32)), .ref (R a0 2)]) zl_X3_36 zm_X3_combined ⟨by decide, by decide⟩ rfl rfl (Nat.le_of_ble_eq_true rfl) zd_X3_value_8.2.1.2.1 (ok_X3_combined hW h26) ?_
  obtain ⟨hc27, h⟩ := zck_e h
  obtain ⟨M28, hM28, h⟩ := zlt_e h
  refine rn_iast hM28 (zw_3_2 hW k_a0) hc27 zd_X3_value_8.2.1.2.2 ?_
  refine rn_iinc (v := (x4 + 1)) (ls' := [(4, .int (x4 + 1)), (2, .int (x2 + (-1))), (0, .ref a0), (1, .ref a1), (3, .int x3), (5, .int x5), (7, .int x7), (8, .int x8)]) 4 rfl rfl (by decide) rfl zd_X3_value_8.2.2.1.1 ?_
  refine rn_goto (tgt := 7) zd_X3_value_8.2.2.1.2 rfl ?_
  cases h
  exact rn_sub (ls' := [(0, .ref a0), (1, .ref a1), (2, .int (x2 + (-1))), (3, .int x3), (4, .int (x4 + 1))]) [2, 3, 1, 4, 0] rfl hk
def b_X3_value_7 (R : zR) (M : zM) (a0 : Nat) (a1 : Nat) (x2 : Int32) (x3 : Int32) (x4 : Int32) : Option ((Int32 × Int32 × Int32 × zM) ⊕ ((Int32 × zM) ⊕ (zM) ⊕ (zM) ⊕ (zM) ⊕ (zM) ⊕ (zM))) :=
  if (M a0 3) ≤ x4 then (
    some (.inr (.inr (.inr (.inr (.inr (.inr M))))))
  ) else (
    if x3 < 0 then (
      some (.inr (.inr (.inr (.inr (.inr (.inr M))))))
    ) else (
      if (M a0 3) ≤ x3 then (
        some (.inr (.inr (.inr (.inr (.inr (.inr M))))))
      ) else (
        if (400 : Int32) ≤ x3 then (
          some (.inr (.inr (.inr (.inr (.inr (.inr M))))))
        ) else (
          zck (zin x3 400) <|
          zck (zin x3 400) <|
          if (M (R a0 0) (ztn x3)) = (4 : Int32) then (
            some (.inr (.inl (x2, M)))
          ) else (
            if (M (R a0 0) (ztn x3)) = (1 : Int32) then (
              j_X3_value_91 R M a0 a1 x2 (x3 + 1) x4 (M (R a0 0) (ztn x3)) (M (R a0 1) (ztn x3))
            ) else (
              if (M (R a0 0) (ztn x3)) = (2 : Int32) then (
                j_X3_value_91 R M a0 a1 x2 (x3 + 1) x4 (M (R a0 0) (ztn x3)) (M (R a0 1) (ztn x3))
              ) else (
                if x2 < (2 : Int32) then (
                  some (.inr (.inr (.inr (.inr (.inl M)))))
                ) else (
                  if x2 ≤ (16 : Int32) then (
                    zck (zin (x2 - (1 : Int32)) 16) <|
                    zck (zin (x2 - (2 : Int32)) 16) <|
                    if (M (R a0 0) (ztn x3)) = (3 : Int32) then (
                      if (M (R a0 2) (ztn (x2 - (2 : Int32)))) < (M (R a0 2) (ztn (x2 - (1 : Int32)))) then (
                        some (.inl ((x2 + (-2)), (x3 + 1), (x4 + 1), M))
                      ) else (
                        some (.inl ((x2 + (-2)), (M (R a0 1) (ztn x3)), (x4 + 1), M))
                      )
                    ) else (
                      if (M (R a0 0) (ztn x3)) = (47 : Int32) then (
                        if (M (R a0 2) (ztn (x2 - (1 : Int32)))) = 0 then (
                          some (.inr (.inr (.inr (.inr (.inr (.inl M))))))
                        ) else (
                          j_X3_value_225 R M a0 a1 x2 (x3 + 1) x4 (M (R a0 0) (ztn x3)) (M (R a0 2) (ztn (x2 - (1 : Int32)))) (M (R a0 2) (ztn (x2 - (2 : Int32))))
                        )
                      ) else (
                        j_X3_value_225 R M a0 a1 x2 (x3 + 1) x4 (M (R a0 0) (ztn x3)) (M (R a0 2) (ztn (x2 - (1 : Int32)))) (M (R a0 2) (ztn (x2 - (2 : Int32))))
                      )
                    )
                  ) else (
                    some (.inr (.inr (.inr (.inr (.inl M)))))
                  )
                )
              )
            )
          )
        )
      )
    )
  )
set_option maxRecDepth 4000 in
theorem ok_b_X3_value_7 {G : zG} {K : zK} {R : zR} {M : zM} {L : zL} (hW : zWT R K) {a0 : Nat} {a1 : Nat} {x2 : Int32} {x3 : Int32} {x4 : Int32} (k_a0 : K[a0]? = some (3, 5)) (k_a1 : K[a1]? = some (20, 7)) {r : Option Value} {S' : zS} {x : (Int32 × Int32 × Int32 × zM) ⊕ ((Int32 × zM) ⊕ (zM) ⊕ (zM) ⊕ (zM) ⊕ (zM) ⊕ (zM))} (h : b_X3_value_7 R M a0 a1 x2 x3 x4 = some x) (hk : Sum.elim (P_X3_value_7 G K R L a0 a1 r S') (Q_X3_value_7 G K R L a0 a1 r S') x) : P_X3_value_7 G K R L a0 a1 r S' (x2, x3, x4, M) := by
  show Rn G mt_X3_value 7 [(0, .ref a0), (1, .ref a1), (2, .int x2), (3, .int x3), (4, .int x4)] [] (M, L, R, K) r S'
  unfold b_X3_value_7 at h
  refine rn_iload 4 rfl zd_X3_value_0.1.2.2.1 ?_
  refine rn_aload_n (q := 0) 0 rfl zd_X3_value_0.1.2.2.2 ?_
  refine rn_getI zf_X3_21 (Or.inl rfl) k_a0 zd_X3_value_0.2.1.1.1 ?_
  rcases zif_e h with ⟨hc1, h⟩ | ⟨hc1, h⟩
  · refine rn_icmp_ge_t (tgt := 251) hc1 zd_X3_value_0.2.1.1.2 rfl ?_
    cases h
    exact rn_sub (ls' := []) [] rfl hk
  · refine rn_icmp_ge_f (tgt := 251) hc1 zd_X3_value_0.2.1.1.2 rfl ?_
    refine rn_iload_n (q := 3) 3 rfl zd_X3_value_0.2.1.2.1 ?_
    rcases zif_e h with ⟨hc2, h⟩ | ⟨hc2, h⟩
    · refine rn_if_lt_t (tgt := 251) hc2 zd_X3_value_0.2.1.2.2 rfl ?_
      cases h
      exact rn_sub (ls' := []) [] rfl hk
    · refine rn_if_lt_f (tgt := 251) hc2 zd_X3_value_0.2.1.2.2 rfl ?_
      refine rn_iload_n (q := 3) 3 rfl zd_X3_value_0.2.2.1.1 ?_
      refine rn_aload_n (q := 0) 0 rfl zd_X3_value_0.2.2.1.2 ?_
      refine rn_getI zf_X3_21 (Or.inl rfl) k_a0 zd_X3_value_0.2.2.2.1 ?_
      rcases zif_e h with ⟨hc3, h⟩ | ⟨hc3, h⟩
      · refine rn_icmp_ge_t (tgt := 251) hc3 zd_X3_value_0.2.2.2.2 rfl ?_
        cases h
        exact rn_sub (ls' := []) [] rfl hk
      · refine rn_icmp_ge_f (tgt := 251) hc3 zd_X3_value_0.2.2.2.2 rfl ?_
        refine rn_iload_n (q := 3) 3 rfl zd_X3_value_1.1.1.1.1 ?_
        refine rn_aload_n (q := 0) 0 rfl zd_X3_value_1.1.1.1.2 ?_
        refine rn_getR zf_X3_9 (Or.inr ⟨_, rfl⟩) k_a0 (zx_3_0 hW k_a0) zd_X3_value_1.1.1.2.1 ?_
        refine rn_alen (v := 400) (zw_3_0 hW k_a0) (Or.inl rfl) rfl zd_X3_value_1.1.1.2.2 ?_
        rcases zif_e h with ⟨hc4, h⟩ | ⟨hc4, h⟩
        · refine rn_icmp_ge_t (tgt := 251) hc4 zd_X3_value_1.1.2.1.1 rfl ?_
          cases h
          exact rn_sub (ls' := []) [] rfl hk
        · refine rn_icmp_ge_f (tgt := 251) hc4 zd_X3_value_1.1.2.1.1 rfl ?_
          refine rn_aload_n (q := 0) 0 rfl zd_X3_value_1.1.2.1.2 ?_
          refine rn_getR zf_X3_9 (Or.inr ⟨_, rfl⟩) k_a0 (zx_3_0 hW k_a0) zd_X3_value_1.1.2.2.1 ?_
          refine rn_iload_n (q := 3) 3 rfl zd_X3_value_1.1.2.2.2 ?_
          obtain ⟨hc5, h⟩ := zck_e h
          refine rn_iald (zw_3_0 hW k_a0) hc5 zd_X3_value_1.2.1.1.1 ?_
          refine rn_istore (ls' := [(5, .int (M (R a0 0) (ztn x3))), (0, .ref a0), (1, .ref a1), (2, .int x2), (3, .int x3), (4, .int x4)]) (by decide) rfl zd_X3_value_1.2.1.1.2 ?_
          refine rn_aload_n (q := 0) 1 rfl zd_X3_value_1.2.1.2.1 ?_
          refine rn_getR zf_X3_15 (Or.inr ⟨_, rfl⟩) k_a0 (zx_3_1 hW k_a0) zd_X3_value_1.2.1.2.2 ?_
          refine rn_iload_n (q := 3) 4 rfl zd_X3_value_1.2.2.1.1 ?_
          obtain ⟨hc6, h⟩ := zck_e h
          refine rn_iald (zw_3_1 hW k_a0) hc6 zd_X3_value_1.2.2.1.2 ?_
          refine rn_istore (ls' := [(6, .int (M (R a0 1) (ztn x3))), (5, .int (M (R a0 0) (ztn x3))), (0, .ref a0), (1, .ref a1), (2, .int x2), (3, .int x3), (4, .int x4)]) (by decide) rfl zd_X3_value_1.2.2.2.1 ?_
          refine rn_iinc (v := (x3 + 1)) (ls' := [(3, .int (x3 + 1)), (6, .int (M (R a0 1) (ztn x3))), (5, .int (M (R a0 0) (ztn x3))), (0, .ref a0), (1, .ref a1), (2, .int x2), (4, .int x4)]) 5 rfl rfl (by decide) rfl zd_X3_value_1.2.2.2.2 ?_
          refine rn_iload 2 rfl zd_X3_value_2.1.1.1.1 ?_
          refine rn_iconst (v := 4) zd_X3_value_2.1.1.1.2 rfl ?_
          rcases zif_e h with ⟨hc7, h⟩ | ⟨hc7, h⟩
          · refine rn_icmp_ne_f (tgt := 79) hc7 zd_X3_value_2.1.1.2.1 rfl ?_
            cases h
            exact rn_sub (ls' := [(0, .ref a0), (2, .int x2)]) [3, 5] rfl hk
          · refine rn_icmp_ne_t (tgt := 79) hc7 zd_X3_value_2.1.1.2.1 rfl ?_
            refine rn_iload 2 rfl zd_X3_value_2.2.2.2.1 ?_
            refine rn_iconst (v := 1) zd_X3_value_2.2.2.2.2 rfl ?_
            rcases zif_e h with ⟨hc8, h⟩ | ⟨hc8, h⟩
            · refine rn_icmp_eq_t (tgt := 91) hc8 zd_X3_value_3.1.1.1.1 rfl ?_
              exact rn_sub (ls' := [(0, .ref a0), (1, .ref a1), (2, .int x2), (3, .int (x3 + 1)), (4, .int x4), (5, .int (M (R a0 0) (ztn x3))), (6, .int (M (R a0 1) (ztn x3)))]) [3, 4, 5, 0, 6, 2, 1] rfl (ok_j_X3_value_91 hW k_a0 k_a1 h hk)
            · refine rn_icmp_eq_f (tgt := 91) hc8 zd_X3_value_3.1.1.1.1 rfl ?_
              refine rn_iload 2 rfl zd_X3_value_3.1.1.1.2 ?_
              refine rn_iconst (v := 2) zd_X3_value_3.1.1.2.1 rfl ?_
              rcases zif_e h with ⟨hc18, h⟩ | ⟨hc18, h⟩
              · refine rn_icmp_ne_f (tgt := 153) hc18 zd_X3_value_3.1.1.2.2 rfl ?_
                exact rn_sub (ls' := [(0, .ref a0), (1, .ref a1), (2, .int x2), (3, .int (x3 + 1)), (4, .int x4), (5, .int (M (R a0 0) (ztn x3))), (6, .int (M (R a0 1) (ztn x3)))]) [3, 4, 5, 0, 6, 2, 1] rfl (ok_j_X3_value_91 hW k_a0 k_a1 h hk)
              · refine rn_icmp_ne_t (tgt := 153) hc18 zd_X3_value_3.1.1.2.2 rfl ?_
                refine rn_iload_n (q := 2) 5 rfl zd_X3_value_5.1.2.2.1 ?_
                refine rn_iconst (v := 2) zd_X3_value_5.1.2.2.2 rfl ?_
                rcases zif_e h with ⟨hc19, h⟩ | ⟨hc19, h⟩
                · refine rn_icmp_lt_t (tgt := 167) hc19 zd_X3_value_5.2.1.1.1 rfl ?_
                  cases h
                  exact rn_sub (ls' := []) [] rfl hk
                · refine rn_icmp_lt_f (tgt := 167) hc19 zd_X3_value_5.2.1.1.1 rfl ?_
                  refine rn_iload_n (q := 2) 5 rfl zd_X3_value_5.2.1.1.2 ?_
                  refine rn_aload_n (q := 0) 3 rfl zd_X3_value_5.2.1.2.1 ?_
                  refine rn_getR zf_X3_18 (Or.inr ⟨_, rfl⟩) k_a0 (zx_3_2 hW k_a0) zd_X3_value_5.2.1.2.2 ?_
                  refine rn_alen (v := 16) (zw_3_2 hW k_a0) (Or.inl rfl) rfl zd_X3_value_5.2.2.1.1 ?_
                  rcases zif_e h with ⟨hc20, h⟩ | ⟨hc20, h⟩
                  · refine rn_icmp_le_t (tgt := 169) hc20 zd_X3_value_5.2.2.1.2 rfl ?_
                    refine rn_aload_n (q := 0) 3 rfl zd_X3_value_6.1.1.1.1 ?_
                    refine rn_getR zf_X3_18 (Or.inr ⟨_, rfl⟩) k_a0 (zx_3_2 hW k_a0) zd_X3_value_6.1.1.1.2 ?_
                    refine rn_iload_n (q := 2) 5 rfl zd_X3_value_6.1.1.2.1 ?_
                    refine rn_iconst (v := 1) zd_X3_value_6.1.1.2.2 rfl ?_
                    refine rn_isub zd_X3_value_6.1.2.1.1 ?_
                    obtain ⟨hc21, h⟩ := zck_e h
                    refine rn_iald (zw_3_2 hW k_a0) hc21 zd_X3_value_6.1.2.1.2 ?_
                    refine rn_istore (ls' := [(7, .int (M (R a0 2) (ztn (x2 - (1 : Int32))))), (3, .int (x3 + 1)), (6, .int (M (R a0 1) (ztn x3))), (5, .int (M (R a0 0) (ztn x3))), (0, .ref a0), (1, .ref a1), (2, .int x2), (4, .int x4)]) (by decide) rfl zd_X3_value_6.1.2.2.1 ?_
                    refine rn_aload_n (q := 0) 4 rfl zd_X3_value_6.1.2.2.2 ?_
                    refine rn_getR zf_X3_18 (Or.inr ⟨_, rfl⟩) k_a0 (zx_3_2 hW k_a0) zd_X3_value_6.2.1.1.1 ?_
                    refine rn_iload_n (q := 2) 6 rfl zd_X3_value_6.2.1.1.2 ?_
                    refine rn_iconst (v := 2) zd_X3_value_6.2.1.2.1 rfl ?_
                    refine rn_isub zd_X3_value_6.2.1.2.2 ?_
                    obtain ⟨hc22, h⟩ := zck_e h
                    refine rn_iald (zw_3_2 hW k_a0) hc22 zd_X3_value_6.2.2.1.1 ?_
                    refine rn_istore (ls' := [(8, .int (M (R a0 2) (ztn (x2 - (2 : Int32))))), (7, .int (M (R a0 2) (ztn (x2 - (1 : Int32))))), (3, .int (x3 + 1)), (6, .int (M (R a0 1) (ztn x3))), (5, .int (M (R a0 0) (ztn x3))), (0, .ref a0), (1, .ref a1), (2, .int x2), (4, .int x4)]) (by decide) rfl zd_X3_value_6.2.2.1.2 ?_
                    refine rn_iload 4 rfl zd_X3_value_6.2.2.2.1 ?_
                    refine rn_iconst (v := 3) zd_X3_value_6.2.2.2.2 rfl ?_
                    rcases zif_e h with ⟨hc23, h⟩ | ⟨hc23, h⟩
                    · refine rn_icmp_ne_f (tgt := 211) hc23 zd_X3_value_7.1.1.1.1 rfl ?_
                      refine rn_iinc (v := (x2 + (-2))) (ls' := [(2, .int (x2 + (-2))), (8, .int (M (R a0 2) (ztn (x2 - (2 : Int32))))), (7, .int (M (R a0 2) (ztn (x2 - (1 : Int32))))), (3, .int (x3 + 1)), (6, .int (M (R a0 1) (ztn x3))), (5, .int (M (R a0 0) (ztn x3))), (0, .ref a0), (1, .ref a1), (4, .int x4)]) 7 rfl (congrArg (fun z => x2 + z) (show Int32.ofInt (-2) = -2 by decide)) (by decide) rfl zd_X3_value_7.1.1.1.2 ?_
                      refine rn_iload 1 rfl zd_X3_value_7.1.1.2.1 ?_
                      refine rn_iload 2 rfl zd_X3_value_7.1.1.2.2 ?_
                      rcases zif_e h with ⟨hc30, h⟩ | ⟨hc30, h⟩
                      · refine rn_icmp_lt_t (tgt := 245) hc30 zd_X3_value_7.1.2.1.1 rfl ?_
                        refine rn_iinc (v := (x4 + 1)) (ls' := [(4, .int (x4 + 1)), (2, .int (x2 + (-2))), (8, .int (M (R a0 2) (ztn (x2 - (2 : Int32))))), (7, .int (M (R a0 2) (ztn (x2 - (1 : Int32))))), (3, .int (x3 + 1)), (6, .int (M (R a0 1) (ztn x3))), (5, .int (M (R a0 0) (ztn x3))), (0, .ref a0), (1, .ref a1)]) 8 rfl rfl (by decide) rfl zd_X3_value_8.2.2.1.1 ?_
                        refine rn_goto (tgt := 7) zd_X3_value_8.2.2.1.2 rfl ?_
                        cases h
                        exact rn_sub (ls' := [(0, .ref a0), (1, .ref a1), (2, .int (x2 + (-2))), (3, .int (x3 + 1)), (4, .int (x4 + 1))]) [7, 8, 1, 4, 0] rfl hk
                      · refine rn_icmp_lt_f (tgt := 245) hc30 zd_X3_value_7.1.2.1.1 rfl ?_
                        refine rn_iload 4 rfl zd_X3_value_7.1.2.1.2 ?_
                        refine rn_istore_n (q := 3) (ls' := [(3, .int (M (R a0 1) (ztn x3))), (2, .int (x2 + (-2))), (8, .int (M (R a0 2) (ztn (x2 - (2 : Int32))))), (7, .int (M (R a0 2) (ztn (x2 - (1 : Int32))))), (6, .int (M (R a0 1) (ztn x3))), (5, .int (M (R a0 0) (ztn x3))), (0, .ref a0), (1, .ref a1), (4, .int x4)]) (by decide) rfl zd_X3_value_7.1.2.2.1 ?_
                        refine rn_goto (tgt := 245) zd_X3_value_7.1.2.2.2 rfl ?_
                        refine rn_iinc (v := (x4 + 1)) (ls' := [(4, .int (x4 + 1)), (3, .int (M (R a0 1) (ztn x3))), (2, .int (x2 + (-2))), (8, .int (M (R a0 2) (ztn (x2 - (2 : Int32))))), (7, .int (M (R a0 2) (ztn (x2 - (1 : Int32))))), (6, .int (M (R a0 1) (ztn x3))), (5, .int (M (R a0 0) (ztn x3))), (0, .ref a0), (1, .ref a1)]) 8 rfl rfl (by decide) rfl zd_X3_value_8.2.2.1.1 ?_
                        refine rn_goto (tgt := 7) zd_X3_value_8.2.2.1.2 rfl ?_
                        cases h
                        exact rn_sub (ls' := [(0, .ref a0), (1, .ref a1), (2, .int (x2 + (-2))), (3, .int (M (R a0 1) (ztn x3))), (4, .int (x4 + 1))]) [7, 8, 2, 1, 0] rfl hk
                    · refine rn_icmp_ne_t (tgt := 211) hc23 zd_X3_value_7.1.1.1.1 rfl ?_
                      refine rn_iload 4 rfl zd_X3_value_7.2.1.1.1 ?_
                      refine rn_bipush (v := 47) zd_X3_value_7.2.1.1.2 rfl ?_
                      rcases zif_e h with ⟨hc24, h⟩ | ⟨hc24, h⟩
                      · refine rn_icmp_ne_f (tgt := 225) hc24 zd_X3_value_7.2.1.2.1 rfl ?_
                        refine rn_iload 1 rfl zd_X3_value_7.2.1.2.2 ?_
                        rcases zif_e h with ⟨hc29, h⟩ | ⟨hc29, h⟩
                        · refine rn_if_ne_f (tgt := 225) hc29 zd_X3_value_7.2.2.1.1 rfl ?_
                          cases h
                          exact rn_sub (ls' := []) [] rfl hk
                        · refine rn_if_ne_t (tgt := 225) hc29 zd_X3_value_7.2.2.1.1 rfl ?_
                          exact rn_sub (ls' := [(0, .ref a0), (1, .ref a1), (2, .int x2), (3, .int (x3 + 1)), (4, .int x4), (5, .int (M (R a0 0) (ztn x3))), (7, .int (M (R a0 2) (ztn (x2 - (1 : Int32))))), (8, .int (M (R a0 2) (ztn (x2 - (2 : Int32)))))]) [5, 6, 7, 2, 8, 4, 1, 0] rfl (ok_j_X3_value_225 hW k_a0 k_a1 h hk)
                      · refine rn_icmp_ne_t (tgt := 225) hc24 zd_X3_value_7.2.1.2.1 rfl ?_
                        exact rn_sub (ls' := [(0, .ref a0), (1, .ref a1), (2, .int x2), (3, .int (x3 + 1)), (4, .int x4), (5, .int (M (R a0 0) (ztn x3))), (7, .int (M (R a0 2) (ztn (x2 - (1 : Int32))))), (8, .int (M (R a0 2) (ztn (x2 - (2 : Int32)))))]) [5, 6, 7, 2, 8, 4, 1, 0] rfl (ok_j_X3_value_225 hW k_a0 k_a1 h hk)
                  · refine rn_icmp_le_f (tgt := 169) hc20 zd_X3_value_5.2.2.1.2 rfl ?_
                    cases h
                    exact rn_sub (ls' := []) [] rfl hk
def f_X3_value (R : zR) (M : zM) (a0 : Nat) (a1 : Nat) : Option (Int32 × zM) :=
  zbd (zloop zN (fun v => b_X3_value_7 R v.2.2.2 a0 a1 v.1 v.2.1 v.2.2.1) ((0 : Int32), (0 : Int32), (0 : Int32), M)) fun e31 =>
  Sum.elim (fun e32 =>
    if e32.1 ≤ 0 then (
      some ((0 : Int32), e32.2)
    ) else (
      zck (zin (e32.1 - (1 : Int32)) 16) <|
      some ((e32.2 (R a0 2) (ztn (e32.1 - (1 : Int32)))), e32.2)
    )
  ) (fun e33 =>
    Sum.elim (fun e36 =>
      some ((0 : Int32), e36)
    ) (fun e37 =>
      Sum.elim (fun e38 =>
        some ((0 : Int32), e38)
      ) (fun e39 =>
        Sum.elim (fun e40 =>
          some ((0 : Int32), e40)
        ) (fun e41 =>
          Sum.elim (fun e42 =>
            some ((0 : Int32), e42)
          ) (fun e43 =>
            some ((0 : Int32), e43)
          ) e41
        ) e39
      ) e37
    ) e33
  ) e31
set_option maxRecDepth 4000 in
theorem ok_X3_value {G : zG} {K : zK} {R : zR} {M : zM} {L : zL} (hW : zWT R K) {a0 : Nat} {a1 : Nat} (k_a0 : K[a0]? = some (3, 5)) (k_a1 : K[a1]? = some (20, 7)) {r' : Int32} {M' : zM} (h : f_X3_value R M a0 a1 = some (r', M')) : Rm G mt_X3_value [.ref a0, .ref a1] (M, L, R, K) (some (.int r')) (M', L, R, K) := by
  refine rm_rn rfl rfl (Nat.le_of_ble_eq_true rfl) ?_
  show Rn G mt_X3_value 0 [(0, .ref a0), (1, .ref a1)] [] (M, L, R, K) (some (.int r')) (M', L, R, K)
  unfold f_X3_value at h
  refine rn_iconst (v := 0) zd_X3_value_0.1.1.1.1 rfl ?_
  refine rn_istore_n (q := 2) (ls' := [(2, .int (0 : Int32)), (0, .ref a0), (1, .ref a1)]) (by decide) rfl zd_X3_value_0.1.1.1.2 ?_
  refine rn_iconst (v := 0) zd_X3_value_0.1.1.2.1 rfl ?_
  refine rn_istore_n (q := 3) (ls' := [(3, .int (0 : Int32)), (2, .int (0 : Int32)), (0, .ref a0), (1, .ref a1)]) (by decide) rfl zd_X3_value_0.1.1.2.2 ?_
  refine rn_iconst (v := 0) zd_X3_value_0.1.2.1.1 rfl ?_
  refine rn_istore (ls' := [(4, .int (0 : Int32)), (3, .int (0 : Int32)), (2, .int (0 : Int32)), (0, .ref a0), (1, .ref a1)]) (by decide) rfl zd_X3_value_0.1.2.1.2 ?_
  obtain ⟨e31, he31, h⟩ := zbd_e h
  refine rn_sub (ls' := [(0, .ref a0), (1, .ref a1), (2, .int (0 : Int32)), (3, .int (0 : Int32)), (4, .int (0 : Int32))]) [3, 4, 2, 1, 0] rfl (zloop_ok (P := P_X3_value_7 G K R L a0 a1 (some (.int r')) (M', L, R, K)) (Q := Q_X3_value_7 G K R L a0 a1 (some (.int r')) (M', L, R, K)) (fun v x hx hq => ok_b_X3_value_7 hW k_a0 k_a1 hx hq) _ _ _ he31 ?_)
  rcases e31 with e32 | e33
  · rw [Sum.elim_inl] at h
    show Rn G mt_X3_value 62 [(0, .ref a0), (2, .int e32.1)] [] (e32.2, L, R, K) (some (.int r')) (M', L, R, K)
    refine rn_iload_n (q := 2) 1 rfl zd_X3_value_2.1.1.2.2 ?_
    rcases zif_e h with ⟨hc34, h⟩ | ⟨hc34, h⟩
    · refine rn_if_le_t (tgt := 77) hc34 zd_X3_value_2.1.2.1.1 rfl ?_
      refine rn_iconst (v := 0) zd_X3_value_2.2.2.1.1 rfl ?_
      cases h
      exact rn_iret zd_X3_value_2.2.2.1.2 rfl
    · refine rn_if_le_f (tgt := 77) hc34 zd_X3_value_2.1.2.1.1 rfl ?_
      refine rn_aload_n (q := 0) 0 rfl zd_X3_value_2.1.2.1.2 ?_
      refine rn_getR zf_X3_18 (Or.inr ⟨_, rfl⟩) k_a0 (zx_3_2 hW k_a0) zd_X3_value_2.1.2.2.1 ?_
      refine rn_iload_n (q := 2) 1 rfl zd_X3_value_2.1.2.2.2 ?_
      refine rn_iconst (v := 1) zd_X3_value_2.2.1.1.1 rfl ?_
      refine rn_isub zd_X3_value_2.2.1.1.2 ?_
      obtain ⟨hc35, h⟩ := zck_e h
      refine rn_iald (zw_3_2 hW k_a0) hc35 zd_X3_value_2.2.1.2.1 ?_
      refine rn_goto (tgt := 78) zd_X3_value_2.2.1.2.2 rfl ?_
      cases h
      exact rn_iret zd_X3_value_2.2.2.1.2 rfl
  · rw [Sum.elim_inr] at h
    rcases e33 with e36 | e37
    · rw [Sum.elim_inl] at h
      show Rn G mt_X3_value 109 [] [] (e36, L, R, K) (some (.int r')) (M', L, R, K)
      refine rn_iconst (v := 0) zd_X3_value_3.2.2.1.2 rfl ?_
      cases h
      exact rn_iret zd_X3_value_3.2.2.2.1 rfl
    · rw [Sum.elim_inr] at h
      rcases e37 with e38 | e39
      · rw [Sum.elim_inl] at h
        show Rn G mt_X3_value 124 [] [] (e38, L, R, K) (some (.int r')) (M', L, R, K)
        refine rn_iconst (v := 0) zd_X3_value_4.1.2.2.1 rfl ?_
        cases h
        exact rn_iret zd_X3_value_4.1.2.2.2 rfl
      · rw [Sum.elim_inr] at h
        rcases e39 with e40 | e41
        · rw [Sum.elim_inl] at h
          show Rn G mt_X3_value 167 [] [] (e40, L, R, K) (some (.int r')) (M', L, R, K)
          refine rn_iconst (v := 0) zd_X3_value_5.2.2.2.1 rfl ?_
          cases h
          exact rn_iret zd_X3_value_5.2.2.2.2 rfl
        · rw [Sum.elim_inr] at h
          rcases e41 with e42 | e43
          · rw [Sum.elim_inl] at h
            show Rn G mt_X3_value 223 [] [] (e42, L, R, K) (some (.int r')) (M', L, R, K)
            refine rn_iconst (v := 0) zd_X3_value_7.2.2.1.2 rfl ?_
            cases h
            exact rn_iret zd_X3_value_7.2.2.2.1 rfl
          · rw [Sum.elim_inr] at h
            show Rn G mt_X3_value 251 [] [] (e43, L, R, K) (some (.int r')) (M', L, R, K)
            refine rn_iconst (v := 0) zd_X3_value_8.2.2.2.1 rfl ?_
            cases h
            exact rn_iret zd_X3_value_8.2.2.2.2 rfl
def f_X6_shown (R : zR) (M : zM) (a0 : Nat) (x1 : Int32) : Option (Int32) :=
  if x1 < 0 then (
    some (0 : Int32)
  ) else (
    if (M a0 4) ≤ x1 then (
      some (0 : Int32)
    ) else (
      if x1 < (10 : Int32) then (
        zck (zin x1 10) <|
        zck (zin x1 10) <|
        some ((M (R a0 0) (ztn x1)) - (M (R a0 1) (ztn x1)))
      ) else (
        some (0 : Int32)
      )
    )
  )
set_option maxRecDepth 4000 in
theorem ok_X6_shown {G : zG} {K : zK} {R : zR} {M : zM} {L : zL} (hW : zWT R K) {a0 : Nat} {x1 : Int32} (k_a0 : K[a0]? = some (6, 8)) {r' : Int32} (h : f_X6_shown R M a0 x1 = some r') : Rm G mt_X6_shown [.ref a0, .int x1] (M, L, R, K) (some (.int r')) (M, L, R, K) := by
  refine rm_rn rfl rfl (Nat.le_of_ble_eq_true rfl) ?_
  show Rn G mt_X6_shown 0 [(0, .ref a0), (1, .int x1)] [] (M, L, R, K) (some (.int r')) (M, L, R, K)
  unfold f_X6_shown at h
  refine rn_iload_n (q := 1) 1 rfl zd_X6_shown_0.1.1.1.1 ?_
  rcases zif_e h with ⟨hc1, h⟩ | ⟨hc1, h⟩
  · refine rn_if_lt_t (tgt := 18) hc1 zd_X6_shown_0.1.1.1.2 rfl ?_
    refine rn_iconst (v := 0) zd_X6_shown_0.2.1.1.2 rfl ?_
    cases h
    exact rn_iret zd_X6_shown_0.2.1.2.1 rfl
  · refine rn_if_lt_f (tgt := 18) hc1 zd_X6_shown_0.1.1.1.2 rfl ?_
    refine rn_iload_n (q := 1) 1 rfl zd_X6_shown_0.1.1.2.1 ?_
    refine rn_aload_n (q := 0) 0 rfl zd_X6_shown_0.1.1.2.2 ?_
    refine rn_getI zf_X6_25 (Or.inl rfl) k_a0 zd_X6_shown_0.1.2.1.1 ?_
    rcases zif_e h with ⟨hc2, h⟩ | ⟨hc2, h⟩
    · refine rn_icmp_ge_t (tgt := 18) hc2 zd_X6_shown_0.1.2.1.2 rfl ?_
      refine rn_iconst (v := 0) zd_X6_shown_0.2.1.1.2 rfl ?_
      cases h
      exact rn_iret zd_X6_shown_0.2.1.2.1 rfl
    · refine rn_icmp_ge_f (tgt := 18) hc2 zd_X6_shown_0.1.2.1.2 rfl ?_
      refine rn_iload_n (q := 1) 1 rfl zd_X6_shown_0.1.2.2.1 ?_
      refine rn_bipush (v := 10) zd_X6_shown_0.1.2.2.2 rfl ?_
      rcases zif_e h with ⟨hc3, h⟩ | ⟨hc3, h⟩
      · refine rn_icmp_lt_t (tgt := 20) hc3 zd_X6_shown_0.2.1.1.1 rfl ?_
        refine rn_aload_n (q := 0) 0 rfl zd_X6_shown_0.2.1.2.2 ?_
        refine rn_getR zf_X6_9 (Or.inr ⟨_, rfl⟩) k_a0 (zx_6_0 hW k_a0) zd_X6_shown_0.2.2.1.1 ?_
        refine rn_iload_n (q := 1) 1 rfl zd_X6_shown_0.2.2.1.2 ?_
        obtain ⟨hc4, h⟩ := zck_e h
        refine rn_iald (zw_6_0 hW k_a0) hc4 zd_X6_shown_0.2.2.2.1 ?_
        refine rn_aload_n (q := 0) 0 rfl zd_X6_shown_0.2.2.2.2 ?_
        refine rn_getR zf_X6_15 (Or.inr ⟨_, rfl⟩) k_a0 (zx_6_1 hW k_a0) zd_X6_shown_1.1.1 ?_
        refine rn_iload_n (q := 1) 1 rfl zd_X6_shown_1.1.2 ?_
        obtain ⟨hc5, h⟩ := zck_e h
        refine rn_iald (zw_6_1 hW k_a0) hc5 zd_X6_shown_1.2.1 ?_
        refine rn_isub zd_X6_shown_1.2.2.1 ?_
        cases h
        exact rn_iret zd_X6_shown_1.2.2.2 rfl
      · refine rn_icmp_lt_f (tgt := 20) hc3 zd_X6_shown_0.2.1.1.1 rfl ?_
        refine rn_iconst (v := 0) zd_X6_shown_0.2.1.1.2 rfl ?_
        cases h
        exact rn_iret zd_X6_shown_0.2.1.2.1 rfl
abbrev P_X7_lot_7 (G : zG) (K : zK) (R : zR) (M : zM) (L : zL) (x1 : Int32) (r : Option Value) (S' : zS) (v : Int32 × Int32) : Prop := Rn G mt_X7_lot 7 [(1, .int x1), (2, .int v.1), (3, .int v.2)] [] (M, L, R, K) r S'
abbrev Q_X7_lot_7 (G : zG) (K : zK) (R : zR) (M : zM) (L : zL) (x1 : Int32) (r : Option Value) (S' : zS) : (Int32) → Prop := (fun e => Rn G mt_X7_lot 45 [(2, .int e)] [] (M, L, R, K) r S')
def j_X7_lot_23 (M : zM) (x1 : Int32) (x3 : Int32) (s0 : Int32) (s1 : Int32) : Option ((Int32 × Int32) ⊕ ((Int32))) :=
  some (.inl (((((s0 ^^^ s1) * (1103515245 : Int32)) + (12345 : Int32)) ^^^ (((((s0 ^^^ s1) * (1103515245 : Int32)) + (12345 : Int32)).toUInt32 >>> ((15 : Int32).toUInt32 &&& Int32.toUInt32 31)).toInt32)), (x3 + 1)))
set_option maxRecDepth 4000 in
theorem ok_j_X7_lot_23 {G : zG} {K : zK} {R : zR} {M : zM} {L : zL} (hW : zWT R K) {x1 : Int32} {x3 : Int32} {s0 : Int32} {s1 : Int32} {r : Option Value} {S' : zS} {x : (Int32 × Int32) ⊕ ((Int32))} (h : j_X7_lot_23 M x1 x3 s0 s1 = some x) (hk : Sum.elim (P_X7_lot_7 G K R M L x1 r S') (Q_X7_lot_7 G K R M L x1 r S') x) : Rn G mt_X7_lot 23 [(1, .int x1), (3, .int x3)] [.int s1, .int s0] (M, L, R, K) r S' := by
  unfold j_X7_lot_23 at h
  refine rn_ixor zd_X7_lot_0.2.2.2.1 ?_
  refine rn_ldc (v := 1103515245) zk_X7_104 zd_X7_lot_0.2.2.2.2 ?_
  refine rn_imul zd_X7_lot_1.1.1.1.1 ?_
  refine rn_sipush (v := 12345) zd_X7_lot_1.1.1.1.2 rfl ?_
  refine rn_iadd zd_X7_lot_1.1.1.2.1 ?_
  refine rn_istore_n (q := 2) (ls' := [(2, .int (((s0 ^^^ s1) * (1103515245 : Int32)) + (12345 : Int32))), (1, .int x1), (3, .int x3)]) (by decide) rfl zd_X7_lot_1.1.1.2.2 ?_
  refine rn_iload_n (q := 2) 0 rfl zd_X7_lot_1.1.2.1.1 ?_
  refine rn_iload_n (q := 2) 0 rfl zd_X7_lot_1.1.2.1.2 ?_
  refine rn_bipush (v := 15) zd_X7_lot_1.1.2.2.1 rfl ?_
  refine rn_iushr zd_X7_lot_1.1.2.2.2 ?_
  refine rn_ixor zd_X7_lot_1.2.1.1.1 ?_
  refine rn_istore_n (q := 2) (ls' := [(2, .int ((((s0 ^^^ s1) * (1103515245 : Int32)) + (12345 : Int32)) ^^^ (((((s0 ^^^ s1) * (1103515245 : Int32)) + (12345 : Int32)).toUInt32 >>> ((15 : Int32).toUInt32 &&& Int32.toUInt32 31)).toInt32))), (1, .int x1), (3, .int x3)]) (by decide) rfl zd_X7_lot_1.2.1.1.2 ?_
  refine rn_iinc (v := (x3 + 1)) (ls' := [(3, .int (x3 + 1)), (2, .int ((((s0 ^^^ s1) * (1103515245 : Int32)) + (12345 : Int32)) ^^^ (((((s0 ^^^ s1) * (1103515245 : Int32)) + (12345 : Int32)).toUInt32 >>> ((15 : Int32).toUInt32 &&& Int32.toUInt32 31)).toInt32))), (1, .int x1)]) 2 rfl rfl (by decide) rfl zd_X7_lot_1.2.1.2.1 ?_
  refine rn_goto (tgt := 7) zd_X7_lot_1.2.1.2.2 rfl ?_
  cases h
  exact rn_sub (ls' := [(1, .int x1), (2, .int ((((s0 ^^^ s1) * (1103515245 : Int32)) + (12345 : Int32)) ^^^ (((((s0 ^^^ s1) * (1103515245 : Int32)) + (12345 : Int32)).toUInt32 >>> ((15 : Int32).toUInt32 &&& Int32.toUInt32 31)).toInt32))), (3, .int (x3 + 1))]) [2, 1, 0] rfl hk
def b_X7_lot_7 (M : zM) (x1 : Int32) (x2 : Int32) (x3 : Int32) : Option ((Int32 × Int32) ⊕ ((Int32))) :=
  if (2 : Int32) ≤ x3 then (
    some (.inr x2)
  ) else (
    if x3 = 0 then (
      j_X7_lot_23 M x1 x3 x2 (25 : Int32)
    ) else (
      j_X7_lot_23 M x1 x3 x2 x1
    )
  )
set_option maxRecDepth 4000 in
theorem ok_b_X7_lot_7 {G : zG} {K : zK} {R : zR} {M : zM} {L : zL} (hW : zWT R K) {x1 : Int32} {x2 : Int32} {x3 : Int32} {r : Option Value} {S' : zS} {x : (Int32 × Int32) ⊕ ((Int32))} (h : b_X7_lot_7 M x1 x2 x3 = some x) (hk : Sum.elim (P_X7_lot_7 G K R M L x1 r S') (Q_X7_lot_7 G K R M L x1 r S') x) : P_X7_lot_7 G K R M L x1 r S' (x2, x3) := by
  show Rn G mt_X7_lot 7 [(1, .int x1), (2, .int x2), (3, .int x3)] [] (M, L, R, K) r S'
  unfold b_X7_lot_7 at h
  refine rn_iload_n (q := 3) 2 rfl zd_X7_lot_0.1.2.1.2 ?_
  refine rn_iconst (v := 2) zd_X7_lot_0.1.2.2.1 rfl ?_
  rcases zif_e h with ⟨hc1, h⟩ | ⟨hc1, h⟩
  · refine rn_icmp_ge_t (tgt := 45) hc1 zd_X7_lot_0.1.2.2.2 rfl ?_
    cases h
    exact rn_sub (ls' := [(2, .int x2)]) [1] rfl hk
  · refine rn_icmp_ge_f (tgt := 45) hc1 zd_X7_lot_0.1.2.2.2 rfl ?_
    refine rn_iload_n (q := 2) 1 rfl zd_X7_lot_0.2.1.1.1 ?_
    refine rn_iload_n (q := 3) 2 rfl zd_X7_lot_0.2.1.1.2 ?_
    rcases zif_e h with ⟨hc2, h⟩ | ⟨hc2, h⟩
    · refine rn_if_ne_f (tgt := 22) hc2 zd_X7_lot_0.2.1.2.1 rfl ?_
      refine rn_bipush (v := 25) zd_X7_lot_0.2.1.2.2 rfl ?_
      refine rn_goto (tgt := 23) zd_X7_lot_0.2.2.1.1 rfl ?_
      exact rn_sub (ls' := [(1, .int x1), (3, .int x3)]) [0, 2] rfl (ok_j_X7_lot_23 hW h hk)
    · refine rn_if_ne_t (tgt := 22) hc2 zd_X7_lot_0.2.1.2.1 rfl ?_
      refine rn_iload_n (q := 1) 0 rfl zd_X7_lot_0.2.2.1.2 ?_
      exact rn_sub (ls' := [(1, .int x1), (3, .int x3)]) [0, 2] rfl (ok_j_X7_lot_23 hW h hk)
def f_X7_lot (M : zM) (a0 : Nat) (x1 : Int32) : Option (Int32) :=
  zbd (zloop zN (fun v => b_X7_lot_7 M x1 v.1 v.2) ((M a0 10), (0 : Int32))) fun e3 =>
  some (((e3.toUInt32 >>> ((1 : Int32).toUInt32 &&& Int32.toUInt32 31)).toInt32) - ((e3.toUInt32 >>> ((1 : Int32).toUInt32 &&& Int32.toUInt32 31)).toInt32) / (100 : Int32) * (100 : Int32))
set_option maxRecDepth 4000 in
theorem ok_X7_lot {G : zG} {K : zK} {R : zR} {M : zM} {L : zL} (hW : zWT R K) {a0 : Nat} {x1 : Int32} (k_a0 : K[a0]? = some (7, 11)) {r' : Int32} (h : f_X7_lot M a0 x1 = some r') : Rm G mt_X7_lot [.ref a0, .int x1] (M, L, R, K) (some (.int r')) (M, L, R, K) := by
  refine rm_rn rfl rfl (Nat.le_of_ble_eq_true rfl) ?_
  show Rn G mt_X7_lot 0 [(0, .ref a0), (1, .int x1)] [] (M, L, R, K) (some (.int r')) (M, L, R, K)
  unfold f_X7_lot at h
  refine rn_aload_n (q := 0) 0 rfl zd_X7_lot_0.1.1.1.1 ?_
  refine rn_getI zf_X7_58 (Or.inl rfl) k_a0 zd_X7_lot_0.1.1.1.2 ?_
  refine rn_istore_n (q := 2) (ls' := [(2, .int (M a0 10)), (0, .ref a0), (1, .int x1)]) (by decide) rfl zd_X7_lot_0.1.1.2.1 ?_
  refine rn_iconst (v := 0) zd_X7_lot_0.1.1.2.2 rfl ?_
  refine rn_istore_n (q := 3) (ls' := [(3, .int (0 : Int32)), (2, .int (M a0 10)), (0, .ref a0), (1, .int x1)]) (by decide) rfl zd_X7_lot_0.1.2.1.1 ?_
  obtain ⟨e3, he3, h⟩ := zbd_e h
  refine rn_sub (ls' := [(1, .int x1), (2, .int (M a0 10)), (3, .int (0 : Int32))]) [3, 1, 0] rfl (zloop_ok (P := P_X7_lot_7 G K R M L x1 (some (.int r')) (M, L, R, K)) (Q := Q_X7_lot_7 G K R M L x1 (some (.int r')) (M, L, R, K)) (fun v x hx hq => ok_b_X7_lot_7 hW hx hq) _ _ _ he3 ?_)
  show Rn G mt_X7_lot 45 [(2, .int e3)] [] (M, L, R, K) (some (.int r')) (M, L, R, K)
  refine rn_iload_n (q := 2) 0 rfl zd_X7_lot_1.2.2.1.1 ?_
  refine rn_iconst (v := 1) zd_X7_lot_1.2.2.1.2 rfl ?_
  refine rn_iushr zd_X7_lot_1.2.2.2.1 ?_
  refine rn_bipush (v := 100) zd_X7_lot_1.2.2.2.2 rfl ?_
  refine rn_irem zd_X7_lot_2.1 (by decide) ?_
  cases h
  exact rn_iret zd_X7_lot_2.2 rfl
def j_X7_look_163 (R : zR) (M : zM) (b0 : Nat) (s1 : Int32) (s2 : Int32) : Option (zM) :=
  zck (zin s1 7) <|
  zlt (zup M b0 (ztn s1) s2) fun M19 =>
  some M19
set_option maxRecDepth 4000 in
theorem ok_j_X7_look_163 {G : zG} {K : zK} {R : zR} {M : zM} {L : zL} (hW : zWT R K) {b0 : Nat} {s1 : Int32} {s2 : Int32} (k_b0 : K[b0]? = some (20, 7)) {M' : zM} (h : j_X7_look_163 R M b0 s1 s2 = some M') : Rn G mt_X7_look 163 [] [.int s2, .int s1, .ref b0] (M, L, R, K) none (M', L, R, K) := by
  unfold j_X7_look_163 at h
  obtain ⟨hc18, h⟩ := zck_e h
  obtain ⟨M19, hM19, h⟩ := zlt_e h
  refine rn_iast hM19 k_b0 hc18 zd_X7_look_5.2.2.2.1 ?_
  cases h
  exact rn_vret zd_X7_look_5.2.2.2.2 rfl
def j_X7_look_57 (R : zR) (M : zM) (a0 : Nat) (a1 : Nat) (x2 : Int32) (x3 : Int32) (x5 : Int32) (s0 : Int32) : Option (zM) :=
  zbd (f_X6_shown R M a1 x5) fun r5 =>
  zbd (f_X6_shown R M a1 s0) fun r7 =>
  zlt (zup M (R a0 3) (ztn (0 : Int32)) r5) fun M9 =>
  zlt (zup M9 (R a0 3) (ztn (1 : Int32)) r7) fun M10 =>
  zbd (f_X6_shown R M10 a1 x2) fun r11 =>
  zlt (zup M10 (R a0 3) (ztn (2 : Int32)) r11) fun M13 =>
  zlt (zup M13 (R a0 3) (ztn (3 : Int32)) (if 0 ≤ (r5 - r7) then (r5 - r7) else 0 - (r5 - r7))) fun M14 =>
  zlt (zup M14 (R a0 3) (ztn (4 : Int32)) (M14 a1 6)) fun M15 =>
  zlt (zup M15 (R a0 3) (ztn (6 : Int32)) (M15 a1 5)) fun M16 =>
  if x3 = 0 then (
    j_X7_look_163 R M16 (R a0 3) (5 : Int32) (0 : Int32)
  ) else (
    zbd (f_X7_lot M16 a0 (((20 : Int32) * (M16 a1 6)) + x2)) fun r20 =>
    j_X7_look_163 R M16 (R a0 3) (5 : Int32) r20
  )
set_option maxRecDepth 4000 in
theorem ok_j_X7_look_57 {G : zG} {K : zK} {R : zR} {M : zM} {L : zL} (hW : zWT R K) {a0 : Nat} {a1 : Nat} {x2 : Int32} {x3 : Int32} {x5 : Int32} {s0 : Int32} (k_a0 : K[a0]? = some (7, 11)) (k_a1 : K[a1]? = some (6, 8)) {M' : zM} (h : j_X7_look_57 R M a0 a1 x2 x3 x5 s0 = some M') : Rn G mt_X7_look 57 [(0, .ref a0), (1, .ref a1), (2, .int x2), (3, .int x3), (5, .int x5)] [.int s0] (M, L, R, K) none (M', L, R, K) := by
  unfold j_X7_look_57 at h
  refine rn_istore (ls' := [(6, .int s0), (0, .ref a0), (1, .ref a1), (2, .int x2), (3, .int x3), (5, .int x5)]) (by decide) rfl zd_X7_look_1.2.2.2.2 ?_
  refine rn_aload_n (q := 1) 2 rfl zd_X7_look_2.1.1.1.1 ?_
  refine rn_iload 5 rfl zd_X7_look_2.1.1.1.2 ?_
  obtain ⟨r5, h6, h⟩ := zbd_e h
  refine rn_callVi (As := [.int x5]) (rest := []) zl_X7_88 zm_X6_shown ⟨by decide, by decide⟩ (ci := 6) rfl rfl (by decide) k_a1 rfl rfl (Nat.le_of_ble_eq_true rfl) zd_X7_look_2.1.1.2.1 (ok_X6_shown hW k_a1 h6) ?_
  refine rn_istore (ls' := [(7, .int r5), (6, .int s0), (0, .ref a0), (1, .ref a1), (2, .int x2), (3, .int x3), (5, .int x5)]) (by decide) rfl zd_X7_look_2.1.1.2.2 ?_
  refine rn_aload_n (q := 1) 3 rfl zd_X7_look_2.1.2.1.1 ?_
  refine rn_iload 1 rfl zd_X7_look_2.1.2.1.2 ?_
  obtain ⟨r7, h8, h⟩ := zbd_e h
  refine rn_callVi (As := [.int s0]) (rest := []) zl_X7_88 zm_X6_shown ⟨by decide, by decide⟩ (ci := 6) rfl rfl (by decide) k_a1 rfl rfl (Nat.le_of_ble_eq_true rfl) zd_X7_look_2.1.2.2.1 (ok_X6_shown hW k_a1 h8) ?_
  refine rn_istore (ls' := [(8, .int r7), (7, .int r5), (6, .int s0), (0, .ref a0), (1, .ref a1), (2, .int x2), (3, .int x3), (5, .int x5)]) (by decide) rfl zd_X7_look_2.1.2.2.2 ?_
  refine rn_aload_n (q := 0) 3 rfl zd_X7_look_2.2.1.1.1 ?_
  refine rn_getR zf_X7_25 (Or.inr ⟨_, rfl⟩) k_a0 (zx_7_3 hW k_a0) zd_X7_look_2.2.1.1.2 ?_
  refine rn_iconst (v := 0) zd_X7_look_2.2.1.2.1 rfl ?_
  refine rn_iload 1 rfl zd_X7_look_2.2.1.2.2 ?_
  obtain ⟨M9, hM9, h⟩ := zlt_e h
  refine rn_iast hM9 (zw_7_3 hW k_a0) (by decide) zd_X7_look_2.2.2.1.1 ?_
  refine rn_aload_n (q := 0) 3 rfl zd_X7_look_2.2.2.1.2 ?_
  refine rn_getR zf_X7_25 (Or.inr ⟨_, rfl⟩) k_a0 (zx_7_3 hW k_a0) zd_X7_look_2.2.2.2.1 ?_
  refine rn_iconst (v := 1) zd_X7_look_2.2.2.2.2 rfl ?_
  refine rn_iload 0 rfl zd_X7_look_3.1.1.1.1 ?_
  obtain ⟨M10, hM10, h⟩ := zlt_e h
  refine rn_iast hM10 (zw_7_3 hW k_a0) (by decide) zd_X7_look_3.1.1.1.2 ?_
  refine rn_aload_n (q := 0) 3 rfl zd_X7_look_3.1.1.2.1 ?_
  refine rn_getR zf_X7_25 (Or.inr ⟨_, rfl⟩) k_a0 (zx_7_3 hW k_a0) zd_X7_look_3.1.1.2.2 ?_
  refine rn_iconst (v := 2) zd_X7_look_3.1.2.1.1 rfl ?_
  refine rn_aload_n (q := 1) 4 rfl zd_X7_look_3.1.2.1.2 ?_
  refine rn_iload_n (q := 2) 5 rfl zd_X7_look_3.1.2.2.1 ?_
  obtain ⟨r11, h12, h⟩ := zbd_e h
  refine rn_callVi (As := [.int x2]) (rest := [.int (2 : Int32), .ref (R a0 3)]) zl_X7_88 zm_X6_shown ⟨by decide, by decide⟩ (ci := 6) rfl rfl (by decide) k_a1 rfl rfl (Nat.le_of_ble_eq_true rfl) zd_X7_look_3.1.2.2.2 (ok_X6_shown hW k_a1 h12) ?_
  obtain ⟨M13, hM13, h⟩ := zlt_e h
  refine rn_iast hM13 (zw_7_3 hW k_a0) (by decide) zd_X7_look_3.2.1.1.1 ?_
  refine rn_aload_n (q := 0) 3 rfl zd_X7_look_3.2.1.1.2 ?_
  refine rn_getR zf_X7_25 (Or.inr ⟨_, rfl⟩) k_a0 (zx_7_3 hW k_a0) zd_X7_look_3.2.1.2.1 ?_
  refine rn_iconst (v := 3) zd_X7_look_3.2.1.2.2 rfl ?_
  refine rn_iload 1 rfl zd_X7_look_3.2.2.1.1 ?_
  refine rn_iload 0 rfl zd_X7_look_3.2.2.1.2 ?_
  refine rn_isub zd_X7_look_3.2.2.2.1 ?_
  refine rn_abs zb_X7_92 zms_abs zmi zmc_abs ⟨by decide, by decide⟩ (Nat.le_of_ble_eq_true rfl) zd_X7_look_3.2.2.2.2 ?_
  obtain ⟨M14, hM14, h⟩ := zlt_e h
  refine rn_iast hM14 (zw_7_3 hW k_a0) (by decide) zd_X7_look_4.1.1.1.1 ?_
  refine rn_aload_n (q := 0) 3 rfl zd_X7_look_4.1.1.1.2 ?_
  refine rn_getR zf_X7_25 (Or.inr ⟨_, rfl⟩) k_a0 (zx_7_3 hW k_a0) zd_X7_look_4.1.1.2.1 ?_
  refine rn_iconst (v := 4) zd_X7_look_4.1.1.2.2 rfl ?_
  refine rn_aload_n (q := 1) 4 rfl zd_X7_look_4.1.2.1.1 ?_
  refine rn_getI zf_X7_95 (Or.inl rfl) k_a1 zd_X7_look_4.1.2.1.2 ?_
  obtain ⟨M15, hM15, h⟩ := zlt_e h
  refine rn_iast hM15 (zw_7_3 hW k_a0) (by decide) zd_X7_look_4.1.2.2.1 ?_
  refine rn_aload_n (q := 0) 3 rfl zd_X7_look_4.1.2.2.2 ?_
  refine rn_getR zf_X7_25 (Or.inr ⟨_, rfl⟩) k_a0 (zx_7_3 hW k_a0) zd_X7_look_4.2.1.1.1 ?_
  refine rn_bipush (v := 6) zd_X7_look_4.2.1.1.2 rfl ?_
  refine rn_aload_n (q := 1) 4 rfl zd_X7_look_4.2.1.2.1 ?_
  refine rn_getI zf_X7_98 (Or.inl rfl) k_a1 zd_X7_look_4.2.1.2.2 ?_
  obtain ⟨M16, hM16, h⟩ := zlt_e h
  refine rn_iast hM16 (zw_7_3 hW k_a0) (by decide) zd_X7_look_4.2.2.1.1 ?_
  refine rn_aload_n (q := 0) 3 rfl zd_X7_look_4.2.2.1.2 ?_
  refine rn_getR zf_X7_25 (Or.inr ⟨_, rfl⟩) k_a0 (zx_7_3 hW k_a0) zd_X7_look_4.2.2.2.1 ?_
  refine rn_iconst (v := 5) zd_X7_look_4.2.2.2.2 rfl ?_
  refine rn_iload_n (q := 3) 6 rfl zd_X7_look_5.1.1.1 ?_
  rcases zif_e h with ⟨hc17, h⟩ | ⟨hc17, h⟩
  · refine rn_if_eq_t (tgt := 162) hc17 zd_X7_look_5.1.1.2.1 rfl ?_
    refine rn_iconst (v := 0) zd_X7_look_5.2.2.1.2 rfl ?_
    exact rn_sub (ls' := []) [] rfl (ok_j_X7_look_163 hW (zw_7_3 hW k_a0) h)
  · refine rn_if_eq_f (tgt := 162) hc17 zd_X7_look_5.1.1.2.1 rfl ?_
    refine rn_aload_n (q := 0) 3 rfl zd_X7_look_5.1.1.2.2 ?_
    refine rn_bipush (v := 20) zd_X7_look_5.1.2.1.1 rfl ?_
    refine rn_aload_n (q := 1) 4 rfl zd_X7_look_5.1.2.1.2 ?_
    refine rn_getI zf_X7_95 (Or.inl rfl) k_a1 zd_X7_look_5.1.2.2.1 ?_
    refine rn_imul zd_X7_look_5.1.2.2.2 ?_
    refine rn_iload_n (q := 2) 5 rfl zd_X7_look_5.2.1.1 ?_
    refine rn_iadd zd_X7_look_5.2.1.2.1 ?_
    obtain ⟨r20, h21, h⟩ := zbd_e h
    refine rn_callVi (As := [.int (((20 : Int32) * (M16 a1 6)) + x2)]) (rest := [.int (5 : Int32), .ref (R a0 3)]) zl_X7_101 zm_X7_lot ⟨by decide, by decide⟩ (ci := 7) rfl rfl (by decide) k_a0 rfl rfl (Nat.le_of_ble_eq_true rfl) zd_X7_look_5.2.1.2.2 (ok_X7_lot hW k_a0 h21) ?_
    refine rn_goto (tgt := 163) zd_X7_look_5.2.2.1.1 rfl ?_
    exact rn_sub (ls' := []) [] rfl (ok_j_X7_look_163 hW (zw_7_3 hW k_a0) h)
def j_X7_look_31 (R : zR) (M : zM) (a0 : Nat) (a1 : Nat) (x2 : Int32) (x3 : Int32) (x4 : Int32) (s0 : Int32) : Option (zM) :=
  if x4 ≤ x2 then (
    if (M a0 6) = 0 then (
      j_X7_look_57 R M a0 a1 x2 x3 s0 (0 : Int32)
    ) else (
      j_X7_look_57 R M a0 a1 x2 x3 s0 x2
    )
  ) else (
    j_X7_look_57 R M a0 a1 x2 x3 s0 (x2 + (1 : Int32))
  )
set_option maxRecDepth 4000 in
theorem ok_j_X7_look_31 {G : zG} {K : zK} {R : zR} {M : zM} {L : zL} (hW : zWT R K) {a0 : Nat} {a1 : Nat} {x2 : Int32} {x3 : Int32} {x4 : Int32} {s0 : Int32} (k_a0 : K[a0]? = some (7, 11)) (k_a1 : K[a1]? = some (6, 8)) {M' : zM} (h : j_X7_look_31 R M a0 a1 x2 x3 x4 s0 = some M') : Rn G mt_X7_look 31 [(0, .ref a0), (1, .ref a1), (2, .int x2), (3, .int x3), (4, .int x4)] [.int s0] (M, L, R, K) none (M', L, R, K) := by
  unfold j_X7_look_31 at h
  refine rn_istore (ls' := [(5, .int s0), (0, .ref a0), (1, .ref a1), (2, .int x2), (3, .int x3), (4, .int x4)]) (by decide) rfl zd_X7_look_1.1.1.1.2 ?_
  refine rn_iload_n (q := 2) 3 rfl zd_X7_look_1.1.1.2.1 ?_
  refine rn_iload 5 rfl zd_X7_look_1.1.1.2.2 ?_
  rcases zif_e h with ⟨hc3, h⟩ | ⟨hc3, h⟩
  · refine rn_icmp_ge_t (tgt := 45) hc3 zd_X7_look_1.1.2.1.1 rfl ?_
    refine rn_aload_n (q := 0) 1 rfl zd_X7_look_1.2.1.1.2 ?_
    refine rn_getI zf_X7_45 (Or.inr rfl) k_a0 zd_X7_look_1.2.1.2.1 ?_
    rcases zif_e h with ⟨hc4, h⟩ | ⟨hc4, h⟩
    · refine rn_if_eq_t (tgt := 56) hc4 zd_X7_look_1.2.1.2.2 rfl ?_
      refine rn_iconst (v := 0) zd_X7_look_1.2.2.2.1 rfl ?_
      exact rn_sub (ls' := [(0, .ref a0), (1, .ref a1), (2, .int x2), (3, .int x3), (5, .int s0)]) [1, 2, 3, 4, 0] rfl (ok_j_X7_look_57 hW k_a0 k_a1 h)
    · refine rn_if_eq_f (tgt := 56) hc4 zd_X7_look_1.2.1.2.2 rfl ?_
      refine rn_iload_n (q := 2) 3 rfl zd_X7_look_1.2.2.1.1 ?_
      refine rn_goto (tgt := 57) zd_X7_look_1.2.2.1.2 rfl ?_
      exact rn_sub (ls' := [(0, .ref a0), (1, .ref a1), (2, .int x2), (3, .int x3), (5, .int s0)]) [1, 2, 3, 4, 0] rfl (ok_j_X7_look_57 hW k_a0 k_a1 h)
  · refine rn_icmp_ge_f (tgt := 45) hc3 zd_X7_look_1.1.2.1.1 rfl ?_
    refine rn_iload_n (q := 2) 3 rfl zd_X7_look_1.1.2.1.2 ?_
    refine rn_iconst (v := 1) zd_X7_look_1.1.2.2.1 rfl ?_
    refine rn_iadd zd_X7_look_1.1.2.2.2 ?_
    refine rn_goto (tgt := 57) zd_X7_look_1.2.1.1.1 rfl ?_
    exact rn_sub (ls' := [(0, .ref a0), (1, .ref a1), (2, .int x2), (3, .int x3), (5, .int s0)]) [1, 2, 3, 4, 0] rfl (ok_j_X7_look_57 hW k_a0 k_a1 h)
def f_X7_look (R : zR) (M : zM) (a0 : Nat) (a1 : Nat) (x2 : Int32) (x3 : Int32) : Option (zM) :=
  if x2 ≤ 0 then (
    if (M a0 6) = 0 then (
      j_X7_look_31 R M a0 a1 x2 x3 ((M a1 4) - (1 : Int32)) ((M a1 4) - (1 : Int32))
    ) else (
      j_X7_look_31 R M a0 a1 x2 x3 ((M a1 4) - (1 : Int32)) x2
    )
  ) else (
    j_X7_look_31 R M a0 a1 x2 x3 ((M a1 4) - (1 : Int32)) (x2 - (1 : Int32))
  )
set_option maxRecDepth 4000 in
theorem ok_X7_look {G : zG} {K : zK} {R : zR} {M : zM} {L : zL} (hW : zWT R K) {a0 : Nat} {a1 : Nat} {x2 : Int32} {x3 : Int32} (k_a0 : K[a0]? = some (7, 11)) (k_a1 : K[a1]? = some (6, 8)) {M' : zM} (h : f_X7_look R M a0 a1 x2 x3 = some M') : Rm G mt_X7_look [.ref a0, .ref a1, .int x2, .int x3] (M, L, R, K) none (M', L, R, K) := by
  refine rm_rn rfl rfl (Nat.le_of_ble_eq_true rfl) ?_
  show Rn G mt_X7_look 0 [(0, .ref a0), (1, .ref a1), (2, .int x2), (3, .int x3)] [] (M, L, R, K) none (M', L, R, K)
  unfold f_X7_look at h
  refine rn_aload_n (q := 1) 1 rfl zd_X7_look_0.1.1.1.1 ?_
  refine rn_getI zf_X7_87 (Or.inl rfl) k_a1 zd_X7_look_0.1.1.1.2 ?_
  refine rn_iconst (v := 1) zd_X7_look_0.1.1.2.1 rfl ?_
  refine rn_isub zd_X7_look_0.1.1.2.2 ?_
  refine rn_istore (ls' := [(4, .int ((M a1 4) - (1 : Int32))), (0, .ref a0), (1, .ref a1), (2, .int x2), (3, .int x3)]) (by decide) rfl zd_X7_look_0.1.2.1.1 ?_
  refine rn_iload_n (q := 2) 3 rfl zd_X7_look_0.1.2.1.2 ?_
  rcases zif_e h with ⟨hc1, h⟩ | ⟨hc1, h⟩
  · refine rn_if_le_t (tgt := 18) hc1 zd_X7_look_0.1.2.2.1 rfl ?_
    refine rn_aload_n (q := 0) 1 rfl zd_X7_look_0.2.1.2.2 ?_
    refine rn_getI zf_X7_45 (Or.inr rfl) k_a0 zd_X7_look_0.2.2.1.1 ?_
    rcases zif_e h with ⟨hc2, h⟩ | ⟨hc2, h⟩
    · refine rn_if_eq_t (tgt := 29) hc2 zd_X7_look_0.2.2.1.2 rfl ?_
      refine rn_iload 0 rfl zd_X7_look_1.1.1.1.1 ?_
      exact rn_sub (ls' := [(0, .ref a0), (1, .ref a1), (2, .int x2), (3, .int x3), (4, .int ((M a1 4) - (1 : Int32)))]) [1, 2, 3, 4, 0] rfl (ok_j_X7_look_31 hW k_a0 k_a1 h)
    · refine rn_if_eq_f (tgt := 29) hc2 zd_X7_look_0.2.2.1.2 rfl ?_
      refine rn_iload_n (q := 2) 3 rfl zd_X7_look_0.2.2.2.1 ?_
      refine rn_goto (tgt := 31) zd_X7_look_0.2.2.2.2 rfl ?_
      exact rn_sub (ls' := [(0, .ref a0), (1, .ref a1), (2, .int x2), (3, .int x3), (4, .int ((M a1 4) - (1 : Int32)))]) [1, 2, 3, 4, 0] rfl (ok_j_X7_look_31 hW k_a0 k_a1 h)
  · refine rn_if_le_f (tgt := 18) hc1 zd_X7_look_0.1.2.2.1 rfl ?_
    refine rn_iload_n (q := 2) 3 rfl zd_X7_look_0.1.2.2.2 ?_
    refine rn_iconst (v := 1) zd_X7_look_0.2.1.1.1 rfl ?_
    refine rn_isub zd_X7_look_0.2.1.1.2 ?_
    refine rn_goto (tgt := 31) zd_X7_look_0.2.1.2.1 rfl ?_
    exact rn_sub (ls' := [(0, .ref a0), (1, .ref a1), (2, .int x2), (3, .int x3), (4, .int ((M a1 4) - (1 : Int32)))]) [1, 2, 3, 4, 0] rfl (ok_j_X7_look_31 hW k_a0 k_a1 h)
def f_X7_wanted (R : zR) (M : zM) (a0 : Nat) (a1 : Nat) (x2 : Int32) : Option (Int32 × zM) :=
  zbd (f_X6_has M a1 x2) fun r1 =>
  if r1 = 0 then (
    some ((0 : Int32), M)
  ) else (
    zbd (f_X7_look R M a0 a1 x2 (M (R a0 0) 4)) fun M4 =>
    zbd2 (f_X3_value R M4 (R a0 0) (R a0 3)) fun r6 M7 =>
    some ((if (0 : Int32) < (if (M7 (R a0 3) (ztn (2 : Int32))) < r6 then (M7 (R a0 3) (ztn (2 : Int32))) else r6) then (if (M7 (R a0 3) (ztn (2 : Int32))) < r6 then (M7 (R a0 3) (ztn (2 : Int32))) else r6) else (0 : Int32)), M7)
  )
set_option maxRecDepth 4000 in
theorem ok_X7_wanted {G : zG} {K : zK} {R : zR} {M : zM} {L : zL} (hW : zWT R K) {a0 : Nat} {a1 : Nat} {x2 : Int32} (k_a0 : K[a0]? = some (7, 11)) (k_a1 : K[a1]? = some (6, 8)) {r' : Int32} {M' : zM} (h : f_X7_wanted R M a0 a1 x2 = some (r', M')) : Rm G mt_X7_wanted [.ref a0, .ref a1, .int x2] (M, L, R, K) (some (.int r')) (M', L, R, K) := by
  refine rm_rn rfl rfl (Nat.le_of_ble_eq_true rfl) ?_
  show Rn G mt_X7_wanted 0 [(0, .ref a0), (1, .ref a1), (2, .int x2)] [] (M, L, R, K) (some (.int r')) (M', L, R, K)
  unfold f_X7_wanted at h
  refine rn_aload_n (q := 1) 1 rfl zd_X7_wanted_0.1.1.1.1 ?_
  refine rn_iload_n (q := 2) 2 rfl zd_X7_wanted_0.1.1.1.2 ?_
  obtain ⟨r1, h2, h⟩ := zbd_e h
  refine rn_callVi (As := [.int x2]) (rest := []) zl_X7_61 zm_X6_has ⟨by decide, by decide⟩ (ci := 6) rfl rfl (by decide) k_a1 rfl rfl (Nat.le_of_ble_eq_true rfl) zd_X7_wanted_0.1.1.2.1 (ok_X6_has hW k_a1 h2) ?_
  rcases zif_e h with ⟨hc3, h⟩ | ⟨hc3, h⟩
  · refine rn_if_ne_f (tgt := 10) hc3 zd_X7_wanted_0.1.1.2.2 rfl ?_
    refine rn_iconst (v := 0) zd_X7_wanted_0.1.2.1.1 rfl ?_
    cases h
    exact rn_iret zd_X7_wanted_0.1.2.1.2 rfl
  · refine rn_if_ne_t (tgt := 10) hc3 zd_X7_wanted_0.1.1.2.2 rfl ?_
    refine rn_aload_n (q := 0) 0 rfl zd_X7_wanted_0.1.2.2.1 ?_
    refine rn_aload_n (q := 1) 1 rfl zd_X7_wanted_0.1.2.2.2 ?_
    refine rn_iload_n (q := 2) 2 rfl zd_X7_wanted_0.2.1.1.1 ?_
    refine rn_aload_n (q := 0) 0 rfl zd_X7_wanted_0.2.1.1.2 ?_
    refine rn_getR zf_X7_12 (Or.inl ⟨_, rfl⟩) k_a0 (zx_7_0 hW k_a0) zd_X7_wanted_0.2.1.2.1 ?_
    refine rn_getI zf_X7_71 (Or.inr rfl) (zw_7_0 hW k_a0) zd_X7_wanted_0.2.1.2.2 ?_
    obtain ⟨M4, h5, h⟩ := zbd_e h
    refine rn_callVv (As := [.ref a1, .int x2, .int (M (R a0 0) 4)]) (rest := []) zl_X7_67 zm_X7_look ⟨by decide, by decide⟩ (ci := 7) rfl rfl (by decide) k_a0 rfl rfl (Nat.le_of_ble_eq_true rfl) zd_X7_wanted_0.2.2.1.1 (ok_X7_look hW k_a0 k_a1 h5) ?_
    refine rn_iconst (v := 0) zd_X7_wanted_0.2.2.1.2 rfl ?_
    refine rn_aload_n (q := 0) 0 rfl zd_X7_wanted_0.2.2.2.1 ?_
    refine rn_getR zf_X7_12 (Or.inl ⟨_, rfl⟩) k_a0 (zx_7_0 hW k_a0) zd_X7_wanted_0.2.2.2.2 ?_
    refine rn_aload_n (q := 0) 0 rfl zd_X7_wanted_1.1.1.1 ?_
    refine rn_getR zf_X7_25 (Or.inr ⟨_, rfl⟩) k_a0 (zx_7_3 hW k_a0) zd_X7_wanted_1.1.1.2 ?_
    obtain ⟨r6, M7, h8, h⟩ := zbd2_e h
    refine rn_callVi (As := [.ref (R a0 3)]) (rest := [.int (0 : Int32)]) zl_X7_74 zm_X3_value ⟨by decide, by decide⟩ (ci := 3) rfl rfl (by decide) (zw_7_0 hW k_a0) rfl rfl (Nat.le_of_ble_eq_true rfl) zd_X7_wanted_1.1.2.1 (ok_X3_value hW (zw_7_0 hW k_a0) (zw_7_3 hW k_a0) h8) ?_
    refine rn_aload_n (q := 0) 0 rfl zd_X7_wanted_1.1.2.2.1 ?_
    refine rn_getR zf_X7_25 (Or.inr ⟨_, rfl⟩) k_a0 (zx_7_3 hW k_a0) zd_X7_wanted_1.1.2.2.2 ?_
    refine rn_iconst (v := 2) zd_X7_wanted_1.2.1.1 rfl ?_
    refine rn_iald (zw_7_3 hW k_a0) (by decide) zd_X7_wanted_1.2.1.2 ?_
    refine rn_min zb_X7_78 zms_min zmi zmc_min ⟨by decide, by decide⟩ (Nat.le_of_ble_eq_true rfl) zd_X7_wanted_1.2.2.1 ?_
    refine rn_max zb_X7_84 zms_max zmi zmc_max ⟨by decide, by decide⟩ (Nat.le_of_ble_eq_true rfl) zd_X7_wanted_1.2.2.2.1 ?_
    cases h
    exact rn_iret zd_X7_wanted_1.2.2.2.2 rfl
abbrev P_X7_payByTurns_2 (G : zG) (K : zK) (R : zR) (a0 : Nat) (a1 : Nat) (x2 : Int32) (r : Option Value) (S' : zS) (v : Int32 × zM × zL) : Prop := Rn G mt_X7_payByTurns 2 [(0, .ref a0), (1, .ref a1), (2, .int x2), (3, .int v.1)] [] (v.2.1, v.2.2, R, K) r S'
abbrev Q_X7_payByTurns_2 (G : zG) (K : zK) (R : zR) (a0 : Nat) (a1 : Nat) (x2 : Int32) (r : Option Value) (S' : zS) : (zM × zL) → Prop := (fun e => Rn G mt_X7_payByTurns 27 [(0, .ref a0), (1, .ref a1), (2, .int x2)] [] (e.1, e.2, R, K) r S')
def nb_X7_payByTurns_2 (R : zR) (M : zM) (L : zL) (a0 : Nat) (a1 : Nat) (x2 : Int32) (x3 : Int32) : Option ((Int32 × zM × zL) ⊕ ((zM × zL))) :=
  if (M a1 4) ≤ x3 then (
    some (.inr (M, L))
  ) else (
    zbd2 (f_X7_wanted R M a0 a1 x3) fun r2 M3 =>
    zbd2 (n_X6_pay R M3 L a1 x3 r2) fun M5 L6 =>
    some (.inl ((x3 + 1), M5, L6))
  )
set_option maxRecDepth 4000 in
theorem ok_b_X7_payByTurns_2 {G : zG} {K : zK} {R : zR} {M : zM} {L : zL} (hW : zWT R K) {a0 : Nat} {a1 : Nat} {x2 : Int32} {x3 : Int32} (k_a0 : K[a0]? = some (7, 11)) (k_a1 : K[a1]? = some (6, 8)) {r : Option Value} {S' : zS} {x : (Int32 × zM × zL) ⊕ ((zM × zL))} (h : nb_X7_payByTurns_2 R M L a0 a1 x2 x3 = some x) (hk : Sum.elim (P_X7_payByTurns_2 G K R a0 a1 x2 r S') (Q_X7_payByTurns_2 G K R a0 a1 x2 r S') x) : P_X7_payByTurns_2 G K R a0 a1 x2 r S' (x3, M, L) := by
  show Rn G mt_X7_payByTurns 2 [(0, .ref a0), (1, .ref a1), (2, .int x2), (3, .int x3)] [] (M, L, R, K) r S'
  unfold nb_X7_payByTurns_2 at h
  refine rn_iload_n (q := 3) 3 rfl zd_X7_payByTurns_0.1.1.2.1 ?_
  refine rn_aload_n (q := 1) 1 rfl zd_X7_payByTurns_0.1.1.2.2 ?_
  refine rn_getI zf_X7_87 (Or.inl rfl) k_a1 zd_X7_payByTurns_0.1.2.1.1 ?_
  rcases zif_e h with ⟨hc1, h⟩ | ⟨hc1, h⟩
  · refine rn_icmp_ge_t (tgt := 27) hc1 zd_X7_payByTurns_0.1.2.1.2 rfl ?_
    cases h
    exact rn_sub (ls' := [(0, .ref a0), (1, .ref a1), (2, .int x2)]) [0, 1, 2] rfl hk
  · refine rn_icmp_ge_f (tgt := 27) hc1 zd_X7_payByTurns_0.1.2.1.2 rfl ?_
    refine rn_aload_n (q := 1) 1 rfl zd_X7_payByTurns_0.1.2.2.1 ?_
    refine rn_iload_n (q := 3) 3 rfl zd_X7_payByTurns_0.1.2.2.2 ?_
    refine rn_aload_n (q := 0) 0 rfl zd_X7_payByTurns_0.2.1.1.1 ?_
    refine rn_aload_n (q := 1) 1 rfl zd_X7_payByTurns_0.2.1.1.2 ?_
    refine rn_iload_n (q := 3) 3 rfl zd_X7_payByTurns_0.2.1.2.1 ?_
    obtain ⟨r2, M3, h4, h⟩ := zbd2_e h
    refine rn_callVi (As := [.ref a1, .int x3]) (rest := [.int x3, .ref a1]) zl_X7_124 zm_X7_wanted ⟨by decide, by decide⟩ (ci := 7) rfl rfl (by decide) k_a0 rfl rfl (Nat.le_of_ble_eq_true rfl) zd_X7_payByTurns_0.2.1.2.2 (ok_X7_wanted hW k_a0 k_a1 h4) ?_
    obtain ⟨M5, L6, h7, h⟩ := zbd2_e h
    refine rn_callVv (As := [.int x3, .int r2]) (rest := []) zl_X7_128 zm_X6_pay ⟨by decide, by decide⟩ (ci := 6) rfl rfl (by decide) k_a1 rfl rfl (Nat.le_of_ble_eq_true rfl) zd_X7_payByTurns_0.2.2.1.1 (ok_X6_pay hW k_a1 h7) ?_
    refine rn_iinc (v := (x3 + 1)) (ls' := [(3, .int (x3 + 1)), (0, .ref a0), (1, .ref a1), (2, .int x2)]) 3 rfl rfl (by decide) rfl zd_X7_payByTurns_0.2.2.1.2 ?_
    refine rn_goto (tgt := 2) zd_X7_payByTurns_0.2.2.2.1 rfl ?_
    cases h
    exact rn_sub (ls' := [(0, .ref a0), (1, .ref a1), (2, .int x2), (3, .int (x3 + 1))]) [1, 2, 3, 0] rfl hk
abbrev P_X7_payByTurns_29 (G : zG) (K : zK) (R : zR) (a0 : Nat) (a1 : Nat) (x2 : Int32) (r : Option Value) (S' : zS) (v : Int32 × zM × zL) : Prop := Rn G mt_X7_payByTurns 29 [(0, .ref a0), (1, .ref a1), (2, .int x2), (3, .int v.1)] [] (v.2.1, v.2.2, R, K) r S'
abbrev Q_X7_payByTurns_29 (G : zG) (K : zK) (R : zR) (a0 : Nat) (a1 : Nat) (x2 : Int32) (r : Option Value) (S' : zS) : (zM × zL) → Prop := (fun e => Rn G mt_X7_payByTurns 51 [] [] (e.1, e.2, R, K) r S')
def nb_X7_payByTurns_29 (R : zR) (M : zM) (L : zL) (a0 : Nat) (a1 : Nat) (x2 : Int32) (x3 : Int32) : Option ((Int32 × zM × zL) ⊕ ((zM × zL))) :=
  if x2 ≤ x3 then (
    some (.inr (M, L))
  ) else (
    zbd2 (f_X7_wanted R M a0 a1 x3) fun r10 M11 =>
    zbd2 (n_X6_pay R M11 L a1 x3 r10) fun M13 L14 =>
    some (.inl ((x3 + 1), M13, L14))
  )
set_option maxRecDepth 4000 in
theorem ok_b_X7_payByTurns_29 {G : zG} {K : zK} {R : zR} {M : zM} {L : zL} (hW : zWT R K) {a0 : Nat} {a1 : Nat} {x2 : Int32} {x3 : Int32} (k_a0 : K[a0]? = some (7, 11)) (k_a1 : K[a1]? = some (6, 8)) {r : Option Value} {S' : zS} {x : (Int32 × zM × zL) ⊕ ((zM × zL))} (h : nb_X7_payByTurns_29 R M L a0 a1 x2 x3 = some x) (hk : Sum.elim (P_X7_payByTurns_29 G K R a0 a1 x2 r S') (Q_X7_payByTurns_29 G K R a0 a1 x2 r S') x) : P_X7_payByTurns_29 G K R a0 a1 x2 r S' (x3, M, L) := by
  show Rn G mt_X7_payByTurns 29 [(0, .ref a0), (1, .ref a1), (2, .int x2), (3, .int x3)] [] (M, L, R, K) r S'
  unfold nb_X7_payByTurns_29 at h
  refine rn_iload_n (q := 3) 3 rfl zd_X7_payByTurns_1.1.1.2.1 ?_
  refine rn_iload_n (q := 2) 2 rfl zd_X7_payByTurns_1.1.1.2.2 ?_
  rcases zif_e h with ⟨hc9, h⟩ | ⟨hc9, h⟩
  · refine rn_icmp_ge_t (tgt := 51) hc9 zd_X7_payByTurns_1.1.2.1.1 rfl ?_
    cases h
    exact rn_sub (ls' := []) [] rfl hk
  · refine rn_icmp_ge_f (tgt := 51) hc9 zd_X7_payByTurns_1.1.2.1.1 rfl ?_
    refine rn_aload_n (q := 1) 1 rfl zd_X7_payByTurns_1.1.2.1.2 ?_
    refine rn_iload_n (q := 3) 3 rfl zd_X7_payByTurns_1.1.2.2.1 ?_
    refine rn_aload_n (q := 0) 0 rfl zd_X7_payByTurns_1.1.2.2.2 ?_
    refine rn_aload_n (q := 1) 1 rfl zd_X7_payByTurns_1.2.1.1 ?_
    refine rn_iload_n (q := 3) 3 rfl zd_X7_payByTurns_1.2.1.2.1 ?_
    obtain ⟨r10, M11, h12, h⟩ := zbd2_e h
    refine rn_callVi (As := [.ref a1, .int x3]) (rest := [.int x3, .ref a1]) zl_X7_124 zm_X7_wanted ⟨by decide, by decide⟩ (ci := 7) rfl rfl (by decide) k_a0 rfl rfl (Nat.le_of_ble_eq_true rfl) zd_X7_payByTurns_1.2.1.2.2 (ok_X7_wanted hW k_a0 k_a1 h12) ?_
    obtain ⟨M13, L14, h15, h⟩ := zbd2_e h
    refine rn_callVv (As := [.int x3, .int r10]) (rest := []) zl_X7_128 zm_X6_pay ⟨by decide, by decide⟩ (ci := 6) rfl rfl (by decide) k_a1 rfl rfl (Nat.le_of_ble_eq_true rfl) zd_X7_payByTurns_1.2.2.1.1 (ok_X6_pay hW k_a1 h15) ?_
    refine rn_iinc (v := (x3 + 1)) (ls' := [(3, .int (x3 + 1)), (0, .ref a0), (1, .ref a1), (2, .int x2)]) 3 rfl rfl (by decide) rfl zd_X7_payByTurns_1.2.2.1.2 ?_
    refine rn_goto (tgt := 29) zd_X7_payByTurns_1.2.2.2.1 rfl ?_
    cases h
    exact rn_sub (ls' := [(0, .ref a0), (1, .ref a1), (2, .int x2), (3, .int (x3 + 1))]) [1, 2, 3, 0] rfl hk
def n_X7_payByTurns (R : zR) (M : zM) (L : zL) (a0 : Nat) (a1 : Nat) (x2 : Int32) : Option (zM × zL) :=
  zbd (zloop zN (fun v => nb_X7_payByTurns_2 R v.2.1 v.2.2 a0 a1 x2 v.1) (x2, M, L)) fun e8 =>
  zbd (zloop zN (fun v => nb_X7_payByTurns_29 R v.2.1 v.2.2 a0 a1 x2 v.1) ((0 : Int32), e8.1, e8.2)) fun e16 =>
  some (e16.1, e16.2)
set_option maxRecDepth 4000 in
theorem ok_X7_payByTurns {G : zG} {K : zK} {R : zR} {M : zM} {L : zL} (hW : zWT R K) {a0 : Nat} {a1 : Nat} {x2 : Int32} (k_a0 : K[a0]? = some (7, 11)) (k_a1 : K[a1]? = some (6, 8)) {M' : zM} {L' : zL} (h : n_X7_payByTurns R M L a0 a1 x2 = some (M', L')) : Rm G mt_X7_payByTurns [.ref a0, .ref a1, .int x2] (M, L, R, K) none (M', L', R, K) := by
  refine rm_rn rfl rfl (Nat.le_of_ble_eq_true rfl) ?_
  show Rn G mt_X7_payByTurns 0 [(0, .ref a0), (1, .ref a1), (2, .int x2)] [] (M, L, R, K) none (M', L', R, K)
  unfold n_X7_payByTurns at h
  refine rn_iload_n (q := 2) 2 rfl zd_X7_payByTurns_0.1.1.1.1 ?_
  refine rn_istore_n (q := 3) (ls' := [(3, .int x2), (0, .ref a0), (1, .ref a1), (2, .int x2)]) (by decide) rfl zd_X7_payByTurns_0.1.1.1.2 ?_
  obtain ⟨e8, he8, h⟩ := zbd_e h
  refine rn_sub (ls' := [(0, .ref a0), (1, .ref a1), (2, .int x2), (3, .int x2)]) [1, 2, 3, 0] rfl (zloop_ok (P := P_X7_payByTurns_2 G K R a0 a1 x2 none (M', L', R, K)) (Q := Q_X7_payByTurns_2 G K R a0 a1 x2 none (M', L', R, K)) (fun v x hx hq => ok_b_X7_payByTurns_2 hW k_a0 k_a1 hx hq) _ _ _ he8 ?_)
  show Rn G mt_X7_payByTurns 27 [(0, .ref a0), (1, .ref a1), (2, .int x2)] [] (e8.1, e8.2, R, K) none (M', L', R, K)
  refine rn_iconst (v := 0) zd_X7_payByTurns_0.2.2.2.2 rfl ?_
  refine rn_istore_n (q := 3) (ls' := [(3, .int (0 : Int32)), (0, .ref a0), (1, .ref a1), (2, .int x2)]) (by decide) rfl zd_X7_payByTurns_1.1.1.1 ?_
  obtain ⟨e16, he16, h⟩ := zbd_e h
  refine rn_sub (ls' := [(0, .ref a0), (1, .ref a1), (2, .int x2), (3, .int (0 : Int32))]) [1, 2, 3, 0] rfl (zloop_ok (P := P_X7_payByTurns_29 G K R a0 a1 x2 none (M', L', R, K)) (Q := Q_X7_payByTurns_29 G K R a0 a1 x2 none (M', L', R, K)) (fun v x hx hq => ok_b_X7_payByTurns_29 hW k_a0 k_a1 hx hq) _ _ _ he16 ?_)
  show Rn G mt_X7_payByTurns 51 [] [] (e16.1, e16.2, R, K) none (M', L', R, K)
  cases h
  exact rn_vret zd_X7_payByTurns_1.2.2.2.2 rfl
def f_X6_earn (R : zR) (M : zM) (a0 : Nat) (x1 : Int32) (x2 : Int32) : Option (zM) :=
  zbd (f_X6_has M a0 x1) fun r1 =>
  if r1 = 0 then (
    some M
  ) else (
    zck (zin x1 10) <|
    zck (zin x1 10) <|
    zlt (zup M (R a0 0) (ztn x1) ((M (R a0 0) (ztn x1)) + x2)) fun M6 =>
    some M6
  )
set_option maxRecDepth 4000 in
theorem ok_X6_earn {G : zG} {K : zK} {R : zR} {M : zM} {L : zL} (hW : zWT R K) {a0 : Nat} {x1 : Int32} {x2 : Int32} (k_a0 : K[a0]? = some (6, 8)) {M' : zM} (h : f_X6_earn R M a0 x1 x2 = some M') : Rm G mt_X6_earn [.ref a0, .int x1, .int x2] (M, L, R, K) none (M', L, R, K) := by
  refine rm_rn rfl rfl (Nat.le_of_ble_eq_true rfl) ?_
  show Rn G mt_X6_earn 0 [(0, .ref a0), (1, .int x1), (2, .int x2)] [] (M, L, R, K) none (M', L, R, K)
  unfold f_X6_earn at h
  refine rn_aload_n (q := 0) 0 rfl zd_X6_earn_0.1.1.1 ?_
  refine rn_iload_n (q := 1) 1 rfl zd_X6_earn_0.1.1.2.1 ?_
  obtain ⟨r1, h2, h⟩ := zbd_e h
  refine rn_callVi (As := [.int x1]) (rest := []) zl_X6_48 zm_X6_has ⟨by decide, by decide⟩ (ci := 6) rfl rfl (by decide) k_a0 rfl rfl (Nat.le_of_ble_eq_true rfl) zd_X6_earn_0.1.1.2.2 (ok_X6_has hW k_a0 h2) ?_
  rcases zif_e h with ⟨hc3, h⟩ | ⟨hc3, h⟩
  · refine rn_if_eq_t (tgt := 18) hc3 zd_X6_earn_0.1.2.1 rfl ?_
    cases h
    exact rn_vret zd_X6_earn_0.2.2.2.2 rfl
  · refine rn_if_eq_f (tgt := 18) hc3 zd_X6_earn_0.1.2.1 rfl ?_
    refine rn_aload_n (q := 0) 0 rfl zd_X6_earn_0.1.2.2.1 ?_
    refine rn_getR zf_X6_9 (Or.inr ⟨_, rfl⟩) k_a0 (zx_6_0 hW k_a0) zd_X6_earn_0.1.2.2.2 ?_
    refine rn_iload_n (q := 1) 1 rfl zd_X6_earn_0.2.1.1 ?_
    refine rn_dup2 zd_X6_earn_0.2.1.2.1 rfl rfl ?_
    obtain ⟨hc4, h⟩ := zck_e h
    refine rn_iald (zw_6_0 hW k_a0) hc4 zd_X6_earn_0.2.1.2.2 ?_
    refine rn_iload_n (q := 2) 2 rfl zd_X6_earn_0.2.2.1.1 ?_
    refine rn_iadd zd_X6_earn_0.2.2.1.2 ?_
    obtain ⟨hc5, h⟩ := zck_e h
    obtain ⟨M6, hM6, h⟩ := zlt_e h
    refine rn_iast hM6 (zw_6_0 hW k_a0) hc5 zd_X6_earn_0.2.2.2.1 ?_
    cases h
    exact rn_vret zd_X6_earn_0.2.2.2.2 rfl
def f_X6_paidBy (R : zR) (M : zM) (a0 : Nat) (x1 : Int32) : Option (Int32) :=
  zbd (f_X6_has M a0 x1) fun r1 =>
  if r1 = 0 then (
    some (0 : Int32)
  ) else (
    zck (zin x1 10) <|
    some (M (R a0 2) (ztn x1))
  )
set_option maxRecDepth 4000 in
theorem ok_X6_paidBy {G : zG} {K : zK} {R : zR} {M : zM} {L : zL} (hW : zWT R K) {a0 : Nat} {x1 : Int32} (k_a0 : K[a0]? = some (6, 8)) {r' : Int32} (h : f_X6_paidBy R M a0 x1 = some r') : Rm G mt_X6_paidBy [.ref a0, .int x1] (M, L, R, K) (some (.int r')) (M, L, R, K) := by
  refine rm_rn rfl rfl (Nat.le_of_ble_eq_true rfl) ?_
  show Rn G mt_X6_paidBy 0 [(0, .ref a0), (1, .int x1)] [] (M, L, R, K) (some (.int r')) (M, L, R, K)
  unfold f_X6_paidBy at h
  refine rn_aload_n (q := 0) 0 rfl zd_X6_paidBy_0.1.1.1 ?_
  refine rn_iload_n (q := 1) 1 rfl zd_X6_paidBy_0.1.1.2 ?_
  obtain ⟨r1, h2, h⟩ := zbd_e h
  refine rn_callVi (As := [.int x1]) (rest := []) zl_X6_48 zm_X6_has ⟨by decide, by decide⟩ (ci := 6) rfl rfl (by decide) k_a0 rfl rfl (Nat.le_of_ble_eq_true rfl) zd_X6_paidBy_0.1.2.1 (ok_X6_has hW k_a0 h2) ?_
  rcases zif_e h with ⟨hc3, h⟩ | ⟨hc3, h⟩
  · refine rn_if_eq_t (tgt := 17) hc3 zd_X6_paidBy_0.1.2.2.1 rfl ?_
    refine rn_iconst (v := 0) zd_X6_paidBy_0.2.2.2.1 rfl ?_
    cases h
    exact rn_iret zd_X6_paidBy_0.2.2.2.2 rfl
  · refine rn_if_eq_f (tgt := 17) hc3 zd_X6_paidBy_0.1.2.2.1 rfl ?_
    refine rn_aload_n (q := 0) 0 rfl zd_X6_paidBy_0.1.2.2.2 ?_
    refine rn_getR zf_X6_18 (Or.inr ⟨_, rfl⟩) k_a0 (zx_6_2 hW k_a0) zd_X6_paidBy_0.2.1.1 ?_
    refine rn_iload_n (q := 1) 1 rfl zd_X6_paidBy_0.2.1.2.1 ?_
    obtain ⟨hc4, h⟩ := zck_e h
    refine rn_iald (zw_6_2 hW k_a0) hc4 zd_X6_paidBy_0.2.1.2.2 ?_
    refine rn_goto (tgt := 18) zd_X6_paidBy_0.2.2.1 rfl ?_
    cases h
    exact rn_iret zd_X6_paidBy_0.2.2.2.2 rfl
abbrev P_X6_mostPaying_4 (G : zG) (K : zK) (R : zR) (M : zM) (L : zL) (a0 : Nat) (r : Option Value) (S' : zS) (v : Int32 × Int32) : Prop := Rn G mt_X6_mostPaying 4 [(0, .ref a0), (1, .int v.1), (2, .int v.2)] [] (M, L, R, K) r S'
abbrev Q_X6_mostPaying_4 (G : zG) (K : zK) (R : zR) (M : zM) (L : zL) (a0 : Nat) (r : Option Value) (S' : zS) : (Int32) → Prop := (fun e => Rn G mt_X6_mostPaying 42 [(1, .int e)] [] (M, L, R, K) r S')
def nb_X6_mostPaying_4 (R : zR) (M : zM) (L : zL) (a0 : Nat) (x1 : Int32) (x2 : Int32) : Option ((Int32 × Int32) ⊕ ((Int32))) :=
  if (10 : Int32) ≤ x2 then (
    some (.inr x1)
  ) else (
    zbd (f_X6_has M a0 x2) fun r2 =>
    if r2 = 0 then (
      some (.inr x1)
    ) else (
      zck (zin x2 10) <|
      zck (zin x1 10) <|
      if (lg_cmp (L (R a0 3) (ztn x2)) (L (R a0 3) (ztn x1))) ≤ 0 then (
        some (.inl (x1, (x2 + 1)))
      ) else (
        some (.inl (x2, (x2 + 1)))
      )
    )
  )
set_option maxRecDepth 4000 in
theorem ok_b_X6_mostPaying_4 {G : zG} {K : zK} {R : zR} {M : zM} {L : zL} (hW : zWT R K) {a0 : Nat} {x1 : Int32} {x2 : Int32} (k_a0 : K[a0]? = some (6, 8)) {r : Option Value} {S' : zS} {x : (Int32 × Int32) ⊕ ((Int32))} (h : nb_X6_mostPaying_4 R M L a0 x1 x2 = some x) (hk : Sum.elim (P_X6_mostPaying_4 G K R M L a0 r S') (Q_X6_mostPaying_4 G K R M L a0 r S') x) : P_X6_mostPaying_4 G K R M L a0 r S' (x1, x2) := by
  show Rn G mt_X6_mostPaying 4 [(0, .ref a0), (1, .int x1), (2, .int x2)] [] (M, L, R, K) r S'
  unfold nb_X6_mostPaying_4 at h
  refine rn_iload_n (q := 2) 2 rfl zd_X6_mostPaying_0.1.2.1.1 ?_
  refine rn_bipush (v := 10) zd_X6_mostPaying_0.1.2.1.2 rfl ?_
  rcases zif_e h with ⟨hc1, h⟩ | ⟨hc1, h⟩
  · refine rn_icmp_ge_t (tgt := 42) hc1 zd_X6_mostPaying_0.1.2.2.1 rfl ?_
    cases h
    exact rn_sub (ls' := [(1, .int x1)]) [1] rfl hk
  · refine rn_icmp_ge_f (tgt := 42) hc1 zd_X6_mostPaying_0.1.2.2.1 rfl ?_
    refine rn_aload_n (q := 0) 0 rfl zd_X6_mostPaying_0.1.2.2.2 ?_
    refine rn_iload_n (q := 2) 2 rfl zd_X6_mostPaying_0.2.1.1.1 ?_
    obtain ⟨r2, h3, h⟩ := zbd_e h
    refine rn_callVi (As := [.int x2]) (rest := []) zl_X6_48 zm_X6_has ⟨by decide, by decide⟩ (ci := 6) rfl rfl (by decide) k_a0 rfl rfl (Nat.le_of_ble_eq_true rfl) zd_X6_mostPaying_0.2.1.1.2 (ok_X6_has hW k_a0 h3) ?_
    rcases zif_e h with ⟨hc4, h⟩ | ⟨hc4, h⟩
    · refine rn_if_eq_t (tgt := 42) hc4 zd_X6_mostPaying_0.2.1.2.1 rfl ?_
      cases h
      exact rn_sub (ls' := [(1, .int x1)]) [1] rfl hk
    · refine rn_if_eq_f (tgt := 42) hc4 zd_X6_mostPaying_0.2.1.2.1 rfl ?_
      refine rn_aload_n (q := 0) 0 rfl zd_X6_mostPaying_0.2.1.2.2 ?_
      refine rn_getR zf_X6_21 (Or.inr ⟨_, rfl⟩) k_a0 (zx_6_3 hW k_a0) zd_X6_mostPaying_0.2.2.1.1 ?_
      refine rn_iload_n (q := 2) 2 rfl zd_X6_mostPaying_0.2.2.1.2 ?_
      obtain ⟨hc5, h⟩ := zck_e h
      refine rn_lald (zw_6_3 hW k_a0) hc5 zd_X6_mostPaying_0.2.2.2.1 ?_
      refine rn_aload_n (q := 0) 0 rfl zd_X6_mostPaying_0.2.2.2.2 ?_
      refine rn_getR zf_X6_21 (Or.inr ⟨_, rfl⟩) k_a0 (zx_6_3 hW k_a0) zd_X6_mostPaying_1.1.1.1 ?_
      refine rn_iload_n (q := 1) 1 rfl zd_X6_mostPaying_1.1.1.2 ?_
      obtain ⟨hc6, h⟩ := zck_e h
      refine rn_lald (zw_6_3 hW k_a0) hc6 zd_X6_mostPaying_1.1.2.1 ?_
      refine rn_lcmp zd_X6_mostPaying_1.1.2.2.1 ?_
      rcases zif_e h with ⟨hc7, h⟩ | ⟨hc7, h⟩
      · refine rn_if_le_t (tgt := 36) hc7 zd_X6_mostPaying_1.1.2.2.2 rfl ?_
        refine rn_iinc (v := (x2 + 1)) (ls' := [(2, .int (x2 + 1)), (0, .ref a0), (1, .int x1)]) 2 rfl rfl (by decide) rfl zd_X6_mostPaying_1.2.1.2.2 ?_
        refine rn_goto (tgt := 4) zd_X6_mostPaying_1.2.2.1 rfl ?_
        cases h
        exact rn_sub (ls' := [(0, .ref a0), (1, .int x1), (2, .int (x2 + 1))]) [1, 2, 0] rfl hk
      · refine rn_if_le_f (tgt := 36) hc7 zd_X6_mostPaying_1.1.2.2.2 rfl ?_
        refine rn_iload_n (q := 2) 2 rfl zd_X6_mostPaying_1.2.1.1 ?_
        refine rn_istore_n (q := 1) (ls' := [(1, .int x2), (0, .ref a0), (2, .int x2)]) (by decide) rfl zd_X6_mostPaying_1.2.1.2.1 ?_
        refine rn_iinc (v := (x2 + 1)) (ls' := [(2, .int (x2 + 1)), (1, .int x2), (0, .ref a0)]) 2 rfl rfl (by decide) rfl zd_X6_mostPaying_1.2.1.2.2 ?_
        refine rn_goto (tgt := 4) zd_X6_mostPaying_1.2.2.1 rfl ?_
        cases h
        exact rn_sub (ls' := [(0, .ref a0), (1, .int x2), (2, .int (x2 + 1))]) [2, 1, 0] rfl hk
def n_X6_mostPaying (R : zR) (M : zM) (L : zL) (a0 : Nat) : Option (Int32) :=
  zbd (zloop zN (fun v => nb_X6_mostPaying_4 R M L a0 v.1 v.2) ((0 : Int32), (1 : Int32))) fun e8 =>
  some e8
set_option maxRecDepth 4000 in
theorem ok_X6_mostPaying {G : zG} {K : zK} {R : zR} {M : zM} {L : zL} (hW : zWT R K) {a0 : Nat} (k_a0 : K[a0]? = some (6, 8)) {r' : Int32} (h : n_X6_mostPaying R M L a0 = some r') : Rm G mt_X6_mostPaying [.ref a0] (M, L, R, K) (some (.int r')) (M, L, R, K) := by
  refine rm_rn rfl rfl (Nat.le_of_ble_eq_true rfl) ?_
  show Rn G mt_X6_mostPaying 0 [(0, .ref a0)] [] (M, L, R, K) (some (.int r')) (M, L, R, K)
  unfold n_X6_mostPaying at h
  refine rn_iconst (v := 0) zd_X6_mostPaying_0.1.1.1.1 rfl ?_
  refine rn_istore_n (q := 1) (ls' := [(1, .int (0 : Int32)), (0, .ref a0)]) (by decide) rfl zd_X6_mostPaying_0.1.1.1.2 ?_
  refine rn_iconst (v := 1) zd_X6_mostPaying_0.1.1.2.1 rfl ?_
  refine rn_istore_n (q := 2) (ls' := [(2, .int (1 : Int32)), (1, .int (0 : Int32)), (0, .ref a0)]) (by decide) rfl zd_X6_mostPaying_0.1.1.2.2 ?_
  obtain ⟨e8, he8, h⟩ := zbd_e h
  refine rn_sub (ls' := [(0, .ref a0), (1, .int (0 : Int32)), (2, .int (1 : Int32))]) [2, 1, 0] rfl (zloop_ok (P := P_X6_mostPaying_4 G K R M L a0 (some (.int r')) (M, L, R, K)) (Q := Q_X6_mostPaying_4 G K R M L a0 (some (.int r')) (M, L, R, K)) (fun v x hx hq => ok_b_X6_mostPaying_4 hW k_a0 hx hq) _ _ _ he8 ?_)
  show Rn G mt_X6_mostPaying 42 [(1, .int e8)] [] (M, L, R, K) (some (.int r')) (M, L, R, K)
  refine rn_iload_n (q := 1) 0 rfl zd_X6_mostPaying_1.2.2.2.1 ?_
  cases h
  exact rn_iret zd_X6_mostPaying_1.2.2.2.2 rfl
abbrev P_X6_sharePot_108 (G : zG) (K : zK) (R : zR) (M : zM) (a0 : Nat) (r : Option Value) (S' : zS) (v : Int32 × zL) : Prop := Rn G mt_X6_sharePot 108 [(0, .ref a0), (2, .int v.1)] [] (M, v.2, R, K) r S'
abbrev Q_X6_sharePot_108 (G : zG) (K : zK) (R : zR) (M : zM) (a0 : Nat) (r : Option Value) (S' : zS) : (zL) → Prop := (fun e => Rn G mt_X6_sharePot 135 [(0, .ref a0)] [] (M, e, R, K) r S')
def nb_X6_sharePot_108 (R : zR) (M : zM) (L : zL) (a0 : Nat) (x2 : Int32) : Option ((Int32 × zL) ⊕ ((zL))) :=
  if (10 : Int32) ≤ x2 then (
    some (.inr L)
  ) else (
    zbd (f_X6_has M a0 x2) fun r9 =>
    if r9 = 0 then (
      some (.inr L)
    ) else (
      zck (zin x2 10) <|
      zlt (zupL L (R a0 3) (ztn x2) (0 : Int64)) fun L13 =>
      some (.inl ((x2 + 1), L13))
    )
  )
set_option maxRecDepth 4000 in
theorem ok_b_X6_sharePot_108 {G : zG} {K : zK} {R : zR} {M : zM} {L : zL} (hW : zWT R K) {a0 : Nat} {x2 : Int32} (k_a0 : K[a0]? = some (6, 8)) {r : Option Value} {S' : zS} {x : (Int32 × zL) ⊕ ((zL))} (h : nb_X6_sharePot_108 R M L a0 x2 = some x) (hk : Sum.elim (P_X6_sharePot_108 G K R M a0 r S') (Q_X6_sharePot_108 G K R M a0 r S') x) : P_X6_sharePot_108 G K R M a0 r S' (x2, L) := by
  show Rn G mt_X6_sharePot 108 [(0, .ref a0), (2, .int x2)] [] (M, L, R, K) r S'
  unfold nb_X6_sharePot_108 at h
  refine rn_iload_n (q := 2) 1 rfl zd_X6_sharePot_3.2.2.1.2 ?_
  refine rn_bipush (v := 10) zd_X6_sharePot_3.2.2.2.1 rfl ?_
  rcases zif_e h with ⟨hc8, h⟩ | ⟨hc8, h⟩
  · refine rn_icmp_ge_t (tgt := 135) hc8 zd_X6_sharePot_3.2.2.2.2 rfl ?_
    cases h
    exact rn_sub (ls' := [(0, .ref a0)]) [0] rfl hk
  · refine rn_icmp_ge_f (tgt := 135) hc8 zd_X6_sharePot_3.2.2.2.2 rfl ?_
    refine rn_aload_n (q := 0) 0 rfl zd_X6_sharePot_4.1.1.1.1 ?_
    refine rn_iload_n (q := 2) 1 rfl zd_X6_sharePot_4.1.1.1.2 ?_
    obtain ⟨r9, h10, h⟩ := zbd_e h
    refine rn_callVi (As := [.int x2]) (rest := []) zl_X6_48 zm_X6_has ⟨by decide, by decide⟩ (ci := 6) rfl rfl (by decide) k_a0 rfl rfl (Nat.le_of_ble_eq_true rfl) zd_X6_sharePot_4.1.1.2.1 (ok_X6_has hW k_a0 h10) ?_
    rcases zif_e h with ⟨hc11, h⟩ | ⟨hc11, h⟩
    · refine rn_if_eq_t (tgt := 135) hc11 zd_X6_sharePot_4.1.1.2.2 rfl ?_
      cases h
      exact rn_sub (ls' := [(0, .ref a0)]) [0] rfl hk
    · refine rn_if_eq_f (tgt := 135) hc11 zd_X6_sharePot_4.1.1.2.2 rfl ?_
      refine rn_aload_n (q := 0) 0 rfl zd_X6_sharePot_4.1.2.1.1 ?_
      refine rn_getR zf_X6_21 (Or.inr ⟨_, rfl⟩) k_a0 (zx_6_3 hW k_a0) zd_X6_sharePot_4.1.2.1.2 ?_
      refine rn_iload_n (q := 2) 1 rfl zd_X6_sharePot_4.1.2.2.1 ?_
      refine rn_lconst (v := 0) zd_X6_sharePot_4.1.2.2.2 rfl ?_
      obtain ⟨hc12, h⟩ := zck_e h
      obtain ⟨L13, hL13, h⟩ := zlt_e h
      refine rn_last hL13 (zw_6_3 hW k_a0) hc12 zd_X6_sharePot_4.2.1.1.1 ?_
      refine rn_iinc (v := (x2 + 1)) (ls' := [(2, .int (x2 + 1)), (0, .ref a0)]) 1 rfl rfl (by decide) rfl zd_X6_sharePot_4.2.1.1.2 ?_
      refine rn_goto (tgt := 108) zd_X6_sharePot_4.2.1.2.1 rfl ?_
      cases h
      exact rn_sub (ls' := [(0, .ref a0), (2, .int (x2 + 1))]) [1, 0] rfl hk
def nj_X6_sharePot_94 (R : zR) (M : zM) (L : zL) (a0 : Nat) (b0 : Nat) (s1 : Int32) : Option (zM × zL) :=
  zbd (f_X6_earn R M b0 s1 (M a0 5)) fun M5 =>
  zlt (zup M5 a0 5 (0 : Int32)) fun M7 =>
  zbd (zloop zN (fun v => nb_X6_sharePot_108 R M7 v.2 a0 v.1) ((0 : Int32), L)) fun e14 =>
  zlt (zup M7 a0 7 ((M7 a0 7) + (1 : Int32))) fun M15 =>
  some (M15, e14)
set_option maxRecDepth 4000 in
theorem ok_j_X6_sharePot_94 {G : zG} {K : zK} {R : zR} {M : zM} {L : zL} (hW : zWT R K) {a0 : Nat} {b0 : Nat} {s1 : Int32} (k_a0 : K[a0]? = some (6, 8)) (k_b0 : K[b0]? = some (6, 8)) {M' : zM} {L' : zL} (h : nj_X6_sharePot_94 R M L a0 b0 s1 = some (M', L')) : Rn G mt_X6_sharePot 94 [(0, .ref a0)] [.int s1, .ref b0] (M, L, R, K) none (M', L', R, K) := by
  unfold nj_X6_sharePot_94 at h
  refine rn_aload_n (q := 0) 0 rfl zd_X6_sharePot_3.1.2.1.2 ?_
  refine rn_getI zf_X6_29 (Or.inl rfl) k_a0 zd_X6_sharePot_3.1.2.2.1 ?_
  obtain ⟨M5, h6, h⟩ := zbd_e h
  refine rn_callVv (As := [.int s1, .int (M a0 5)]) (rest := []) zl_X6_65 zm_X6_earn ⟨by decide, by decide⟩ (ci := 6) rfl rfl (by decide) k_b0 rfl rfl (Nat.le_of_ble_eq_true rfl) zd_X6_sharePot_3.1.2.2.2 (ok_X6_earn hW k_b0 h6) ?_
  refine rn_aload_n (q := 0) 0 rfl zd_X6_sharePot_3.2.1.1.1 ?_
  refine rn_iconst (v := 0) zd_X6_sharePot_3.2.1.1.2 rfl ?_
  obtain ⟨M7, hM7, h⟩ := zlt_e h
  refine rn_putI hM7 zf_X6_29 k_a0 zd_X6_sharePot_3.2.1.2.1 ?_
  refine rn_iconst (v := 0) zd_X6_sharePot_3.2.1.2.2 rfl ?_
  refine rn_istore_n (q := 2) (ls' := [(2, .int (0 : Int32)), (0, .ref a0)]) (by decide) rfl zd_X6_sharePot_3.2.2.1.1 ?_
  obtain ⟨e14, he14, h⟩ := zbd_e h
  refine rn_sub (ls' := [(0, .ref a0), (2, .int (0 : Int32))]) [1, 0] rfl (zloop_ok (P := P_X6_sharePot_108 G K R M7 a0 none (M', L', R, K)) (Q := Q_X6_sharePot_108 G K R M7 a0 none (M', L', R, K)) (fun v x hx hq => ok_b_X6_sharePot_108 hW k_a0 hx hq) _ _ _ he14 ?_)
  show Rn G mt_X6_sharePot 135 [(0, .ref a0)] [] (M7, e14, R, K) none (M', L', R, K)
  refine rn_aload_n (q := 0) 0 rfl zd_X6_sharePot_4.2.1.2.2 ?_
  refine rn_dup zd_X6_sharePot_4.2.2.1.1 rfl ?_
  refine rn_getI zf_X6_35 (Or.inl rfl) k_a0 zd_X6_sharePot_4.2.2.1.2 ?_
  refine rn_iconst (v := 1) zd_X6_sharePot_4.2.2.2.1 rfl ?_
  refine rn_iadd zd_X6_sharePot_4.2.2.2.2 ?_
  obtain ⟨M15, hM15, h⟩ := zlt_e h
  refine rn_putI hM15 zf_X6_35 k_a0 zd_X6_sharePot_5.1 ?_
  cases h
  exact rn_vret zd_X6_sharePot_5.2 rfl
abbrev P_X6_sharePot_24 (G : zG) (K : zK) (R : zR) (L : zL) (a0 : Nat) (x2 : Int32) (r : Option Value) (S' : zS) (v : Int32 × zM) : Prop := Rn G mt_X6_sharePot 24 [(0, .ref a0), (2, .int x2), (3, .int v.1)] [] (v.2, L, R, K) r S'
abbrev Q_X6_sharePot_24 (G : zG) (K : zK) (R : zR) (L : zL) (a0 : Nat) (x2 : Int32) (r : Option Value) (S' : zS) : (zM) → Prop := (fun e => Rn G mt_X6_sharePot 54 [(0, .ref a0), (2, .int x2)] [] (e, L, R, K) r S')
def nb_X6_sharePot_24 (R : zR) (M : zM) (L : zL) (a0 : Nat) (x2 : Int32) (x3 : Int32) : Option ((Int32 × zM) ⊕ ((zM))) :=
  if (10 : Int32) ≤ x3 then (
    some (.inr M)
  ) else (
    zbd (f_X6_has M a0 x3) fun r20 =>
    if r20 = 0 then (
      some (.inr M)
    ) else (
      zck (zin x3 10) <|
      zck (zin x3 10) <|
      zlt (zup M (R a0 0) (ztn x3) ((M (R a0 0) (ztn x3)) + x2)) fun M25 =>
      some (.inl ((x3 + 1), M25))
    )
  )
set_option maxRecDepth 4000 in
theorem ok_b_X6_sharePot_24 {G : zG} {K : zK} {R : zR} {M : zM} {L : zL} (hW : zWT R K) {a0 : Nat} {x2 : Int32} {x3 : Int32} (k_a0 : K[a0]? = some (6, 8)) {r : Option Value} {S' : zS} {x : (Int32 × zM) ⊕ ((zM))} (h : nb_X6_sharePot_24 R M L a0 x2 x3 = some x) (hk : Sum.elim (P_X6_sharePot_24 G K R L a0 x2 r S') (Q_X6_sharePot_24 G K R L a0 x2 r S') x) : P_X6_sharePot_24 G K R L a0 x2 r S' (x3, M) := by
  show Rn G mt_X6_sharePot 24 [(0, .ref a0), (2, .int x2), (3, .int x3)] [] (M, L, R, K) r S'
  unfold nb_X6_sharePot_24 at h
  refine rn_iload_n (q := 3) 2 rfl zd_X6_sharePot_0.2.2.2.1 ?_
  refine rn_bipush (v := 10) zd_X6_sharePot_0.2.2.2.2 rfl ?_
  rcases zif_e h with ⟨hc19, h⟩ | ⟨hc19, h⟩
  · refine rn_icmp_ge_t (tgt := 54) hc19 zd_X6_sharePot_1.1.1.1.1 rfl ?_
    cases h
    exact rn_sub (ls' := [(0, .ref a0), (2, .int x2)]) [0, 1] rfl hk
  · refine rn_icmp_ge_f (tgt := 54) hc19 zd_X6_sharePot_1.1.1.1.1 rfl ?_
    refine rn_aload_n (q := 0) 0 rfl zd_X6_sharePot_1.1.1.1.2 ?_
    refine rn_iload_n (q := 3) 2 rfl zd_X6_sharePot_1.1.1.2.1 ?_
    obtain ⟨r20, h21, h⟩ := zbd_e h
    refine rn_callVi (As := [.int x3]) (rest := []) zl_X6_48 zm_X6_has ⟨by decide, by decide⟩ (ci := 6) rfl rfl (by decide) k_a0 rfl rfl (Nat.le_of_ble_eq_true rfl) zd_X6_sharePot_1.1.1.2.2 (ok_X6_has hW k_a0 h21) ?_
    rcases zif_e h with ⟨hc22, h⟩ | ⟨hc22, h⟩
    · refine rn_if_eq_t (tgt := 54) hc22 zd_X6_sharePot_1.1.2.1.1 rfl ?_
      cases h
      exact rn_sub (ls' := [(0, .ref a0), (2, .int x2)]) [0, 1] rfl hk
    · refine rn_if_eq_f (tgt := 54) hc22 zd_X6_sharePot_1.1.2.1.1 rfl ?_
      refine rn_aload_n (q := 0) 0 rfl zd_X6_sharePot_1.1.2.1.2 ?_
      refine rn_getR zf_X6_9 (Or.inr ⟨_, rfl⟩) k_a0 (zx_6_0 hW k_a0) zd_X6_sharePot_1.1.2.2.1 ?_
      refine rn_iload_n (q := 3) 2 rfl zd_X6_sharePot_1.1.2.2.2 ?_
      refine rn_dup2 zd_X6_sharePot_1.2.1.1.1 rfl rfl ?_
      obtain ⟨hc23, h⟩ := zck_e h
      refine rn_iald (zw_6_0 hW k_a0) hc23 zd_X6_sharePot_1.2.1.1.2 ?_
      refine rn_iload_n (q := 2) 1 rfl zd_X6_sharePot_1.2.1.2.1 ?_
      refine rn_iadd zd_X6_sharePot_1.2.1.2.2 ?_
      obtain ⟨hc24, h⟩ := zck_e h
      obtain ⟨M25, hM25, h⟩ := zlt_e h
      refine rn_iast hM25 (zw_6_0 hW k_a0) hc24 zd_X6_sharePot_1.2.2.1.1 ?_
      refine rn_iinc (v := (x3 + 1)) (ls' := [(3, .int (x3 + 1)), (0, .ref a0), (2, .int x2)]) 2 rfl rfl (by decide) rfl zd_X6_sharePot_1.2.2.1.2 ?_
      refine rn_goto (tgt := 24) zd_X6_sharePot_1.2.2.2.1 rfl ?_
      cases h
      exact rn_sub (ls' := [(0, .ref a0), (2, .int x2), (3, .int (x3 + 1))]) [1, 2, 0] rfl hk
def n_X6_sharePot (R : zR) (M : zM) (L : zL) (a0 : Nat) (x1 : Int32) : Option (zM × zL) :=
  if 0 < (M a0 4) then (
    if x1 = 0 then (
      zck (znz (M a0 4)) <|
      zbd (zloop zN (fun v => nb_X6_sharePot_24 R v.2 L a0 ((M a0 5) / (M a0 4)) v.1) ((0 : Int32), M)) fun e26 =>
      zlt (zup e26 a0 5 ((e26 a0 5) - (((M a0 5) / (M a0 4)) * (e26 a0 4)))) fun M27 =>
      zbd (zloop zN (fun v => nb_X6_sharePot_108 R M27 v.2 a0 v.1) ((0 : Int32), L)) fun e28 =>
      zlt (zup M27 a0 7 ((M27 a0 7) + (1 : Int32))) fun M29 =>
      some (M29, e28)
    ) else (
      if x1 = (1 : Int32) then (
        zbd (n_X6_mostPaying R M L a0) fun r16 =>
        nj_X6_sharePot_94 R M L a0 a0 r16
      ) else (
        zck (znz (M a0 4)) <|
        nj_X6_sharePot_94 R M L a0 a0 ((M a0 7) - (M a0 7) / (M a0 4) * (M a0 4))
      )
    )
  ) else (
    some (M, L)
  )
set_option maxRecDepth 4000 in
theorem ok_X6_sharePot {G : zG} {K : zK} {R : zR} {M : zM} {L : zL} (hW : zWT R K) {a0 : Nat} {x1 : Int32} (k_a0 : K[a0]? = some (6, 8)) {M' : zM} {L' : zL} (h : n_X6_sharePot R M L a0 x1 = some (M', L')) : Rm G mt_X6_sharePot [.ref a0, .int x1] (M, L, R, K) none (M', L', R, K) := by
  refine rm_rn rfl rfl (Nat.le_of_ble_eq_true rfl) ?_
  show Rn G mt_X6_sharePot 0 [(0, .ref a0), (1, .int x1)] [] (M, L, R, K) none (M', L', R, K)
  unfold n_X6_sharePot at h
  refine rn_aload_n (q := 0) 0 rfl zd_X6_sharePot_0.1.1.1.1 ?_
  refine rn_getI zf_X6_25 (Or.inl rfl) k_a0 zd_X6_sharePot_0.1.1.1.2 ?_
  rcases zif_e h with ⟨hc1, h⟩ | ⟨hc1, h⟩
  · refine rn_if_gt_t (tgt := 8) hc1 zd_X6_sharePot_0.1.1.2.1 rfl ?_
    refine rn_iload_n (q := 1) 1 rfl zd_X6_sharePot_0.1.2.1.1 ?_
    rcases zif_e h with ⟨hc2, h⟩ | ⟨hc2, h⟩
    · refine rn_if_ne_f (tgt := 72) hc2 zd_X6_sharePot_0.1.2.1.2 rfl ?_
      refine rn_aload_n (q := 0) 0 rfl zd_X6_sharePot_0.1.2.2.1 ?_
      refine rn_getI zf_X6_29 (Or.inl rfl) k_a0 zd_X6_sharePot_0.1.2.2.2 ?_
      refine rn_aload_n (q := 0) 0 rfl zd_X6_sharePot_0.2.1.1.1 ?_
      refine rn_getI zf_X6_25 (Or.inl rfl) k_a0 zd_X6_sharePot_0.2.1.1.2 ?_
      obtain ⟨hc18, h⟩ := zck_e h
      refine rn_idiv zd_X6_sharePot_0.2.1.2.1 (znz_e hc18) ?_
      refine rn_istore_n (q := 2) (ls' := [(2, .int ((M a0 5) / (M a0 4))), (0, .ref a0), (1, .int x1)]) (by decide) rfl zd_X6_sharePot_0.2.1.2.2 ?_
      refine rn_iconst (v := 0) zd_X6_sharePot_0.2.2.1.1 rfl ?_
      refine rn_istore_n (q := 3) (ls' := [(3, .int (0 : Int32)), (2, .int ((M a0 5) / (M a0 4))), (0, .ref a0), (1, .int x1)]) (by decide) rfl zd_X6_sharePot_0.2.2.1.2 ?_
      obtain ⟨e26, he26, h⟩ := zbd_e h
      refine rn_sub (ls' := [(0, .ref a0), (2, .int ((M a0 5) / (M a0 4))), (3, .int (0 : Int32))]) [2, 1, 0] rfl (zloop_ok (P := P_X6_sharePot_24 G K R L a0 ((M a0 5) / (M a0 4)) none (M', L', R, K)) (Q := Q_X6_sharePot_24 G K R L a0 ((M a0 5) / (M a0 4)) none (M', L', R, K)) (fun v x hx hq => ok_b_X6_sharePot_24 hW k_a0 hx hq) _ _ _ he26 ?_)
      show Rn G mt_X6_sharePot 54 [(0, .ref a0), (2, .int ((M a0 5) / (M a0 4)))] [] (e26, L, R, K) none (M', L', R, K)
      refine rn_aload_n (q := 0) 0 rfl zd_X6_sharePot_1.2.2.2.2 ?_
      refine rn_dup zd_X6_sharePot_2.1.1.1.1 rfl ?_
      refine rn_getI zf_X6_29 (Or.inl rfl) k_a0 zd_X6_sharePot_2.1.1.1.2 ?_
      refine rn_iload_n (q := 2) 1 rfl zd_X6_sharePot_2.1.1.2.1 ?_
      refine rn_aload_n (q := 0) 0 rfl zd_X6_sharePot_2.1.1.2.2 ?_
      refine rn_getI zf_X6_25 (Or.inl rfl) k_a0 zd_X6_sharePot_2.1.2.1.1 ?_
      refine rn_imul zd_X6_sharePot_2.1.2.1.2 ?_
      refine rn_isub zd_X6_sharePot_2.1.2.2.1 ?_
      obtain ⟨M27, hM27, h⟩ := zlt_e h
      refine rn_putI hM27 zf_X6_29 k_a0 zd_X6_sharePot_2.1.2.2.2 ?_
      refine rn_goto (tgt := 106) zd_X6_sharePot_2.2.1.1.1 rfl ?_
      refine rn_iconst (v := 0) zd_X6_sharePot_3.2.1.2.2 rfl ?_
      refine rn_istore_n (q := 2) (ls' := [(2, .int (0 : Int32)), (0, .ref a0)]) (by decide) rfl zd_X6_sharePot_3.2.2.1.1 ?_
      obtain ⟨e28, he28, h⟩ := zbd_e h
      refine rn_sub (ls' := [(0, .ref a0), (2, .int (0 : Int32))]) [1, 0] rfl (zloop_ok (P := P_X6_sharePot_108 G K R M27 a0 none (M', L', R, K)) (Q := Q_X6_sharePot_108 G K R M27 a0 none (M', L', R, K)) (fun v x hx hq => ok_b_X6_sharePot_108 hW k_a0 hx hq) _ _ _ he28 ?_)
      show Rn G mt_X6_sharePot 135 [(0, .ref a0)] [] (M27, e28, R, K) none (M', L', R, K)
      refine rn_aload_n (q := 0) 0 rfl zd_X6_sharePot_4.2.1.2.2 ?_
      refine rn_dup zd_X6_sharePot_4.2.2.1.1 rfl ?_
      refine rn_getI zf_X6_35 (Or.inl rfl) k_a0 zd_X6_sharePot_4.2.2.1.2 ?_
      refine rn_iconst (v := 1) zd_X6_sharePot_4.2.2.2.1 rfl ?_
      refine rn_iadd zd_X6_sharePot_4.2.2.2.2 ?_
      obtain ⟨M29, hM29, h⟩ := zlt_e h
      refine rn_putI hM29 zf_X6_35 k_a0 zd_X6_sharePot_5.1 ?_
      cases h
      exact rn_vret zd_X6_sharePot_5.2 rfl
    · refine rn_if_ne_t (tgt := 72) hc2 zd_X6_sharePot_0.1.2.1.2 rfl ?_
      refine rn_aload_n (q := 0) 0 rfl zd_X6_sharePot_2.2.1.1.2 ?_
      refine rn_iload_n (q := 1) 1 rfl zd_X6_sharePot_2.2.1.2.1 ?_
      refine rn_iconst (v := 1) zd_X6_sharePot_2.2.1.2.2 rfl ?_
      rcases zif_e h with ⟨hc3, h⟩ | ⟨hc3, h⟩
      · refine rn_icmp_ne_f (tgt := 85) hc3 zd_X6_sharePot_2.2.2.1.1 rfl ?_
        refine rn_aload_n (q := 0) 0 rfl zd_X6_sharePot_2.2.2.1.2 ?_
        obtain ⟨r16, h17, h⟩ := zbd_e h
        refine rn_callVi (As := []) (rest := [.ref a0]) zl_X6_61 zm_X6_mostPaying ⟨by decide, by decide⟩ (ci := 6) rfl rfl (by decide) k_a0 rfl rfl (Nat.le_of_ble_eq_true rfl) zd_X6_sharePot_2.2.2.2.1 (ok_X6_mostPaying hW k_a0 h17) ?_
        refine rn_goto (tgt := 94) zd_X6_sharePot_2.2.2.2.2 rfl ?_
        exact rn_sub (ls' := [(0, .ref a0)]) [0] rfl (ok_j_X6_sharePot_94 hW k_a0 k_a0 h)
      · refine rn_icmp_ne_t (tgt := 85) hc3 zd_X6_sharePot_2.2.2.1.1 rfl ?_
        refine rn_aload_n (q := 0) 0 rfl zd_X6_sharePot_3.1.1.1.1 ?_
        refine rn_getI zf_X6_35 (Or.inl rfl) k_a0 zd_X6_sharePot_3.1.1.1.2 ?_
        refine rn_aload_n (q := 0) 0 rfl zd_X6_sharePot_3.1.1.2.1 ?_
        refine rn_getI zf_X6_25 (Or.inl rfl) k_a0 zd_X6_sharePot_3.1.1.2.2 ?_
        obtain ⟨hc4, h⟩ := zck_e h
        refine rn_irem zd_X6_sharePot_3.1.2.1.1 (znz_e hc4) ?_
        exact rn_sub (ls' := [(0, .ref a0)]) [0] rfl (ok_j_X6_sharePot_94 hW k_a0 k_a0 h)
  · refine rn_if_gt_f (tgt := 8) hc1 zd_X6_sharePot_0.1.1.2.1 rfl ?_
    cases h
    exact rn_vret zd_X6_sharePot_0.1.1.2.2 rfl
abbrev P_X7_earn_2 (G : zG) (K : zK) (R : zR) (L : zL) (a0 : Nat) (a1 : Nat) (r : Option Value) (S' : zS) (v : Int32 × zM) : Prop := Rn G mt_X7_earn 2 [(0, .ref a0), (1, .ref a1), (2, .int v.1)] [] (v.2, L, R, K) r S'
abbrev Q_X7_earn_2 (G : zG) (K : zK) (R : zR) (L : zL) (a0 : Nat) (a1 : Nat) (r : Option Value) (S' : zS) : (zM) → Prop := (fun e => Rn G mt_X7_earn 55 [] [] (e, L, R, K) r S')
def b_X7_earn_2 (R : zR) (M : zM) (a0 : Nat) (a1 : Nat) (x2 : Int32) : Option ((Int32 × zM) ⊕ ((zM))) :=
  if (M a1 4) ≤ x2 then (
    some (.inr M)
  ) else (
    zbd (f_X7_look R M a0 a1 x2 (M (R a0 1) 4)) fun M2 =>
    zbd2 (f_X3_value R M2 (R a0 1) (R a0 3)) fun r4 M5 =>
    zbd (f_X6_earn R M5 a1 x2 (if (0 : Int32) < (if (999 : Int32) < r4 then (999 : Int32) else r4) then (if (999 : Int32) < r4 then (999 : Int32) else r4) else (0 : Int32))) fun M7 =>
    some (.inl ((x2 + 1), M7))
  )
set_option maxRecDepth 4000 in
theorem ok_b_X7_earn_2 {G : zG} {K : zK} {R : zR} {M : zM} {L : zL} (hW : zWT R K) {a0 : Nat} {a1 : Nat} {x2 : Int32} (k_a0 : K[a0]? = some (7, 11)) (k_a1 : K[a1]? = some (6, 8)) {r : Option Value} {S' : zS} {x : (Int32 × zM) ⊕ ((zM))} (h : b_X7_earn_2 R M a0 a1 x2 = some x) (hk : Sum.elim (P_X7_earn_2 G K R L a0 a1 r S') (Q_X7_earn_2 G K R L a0 a1 r S') x) : P_X7_earn_2 G K R L a0 a1 r S' (x2, M) := by
  show Rn G mt_X7_earn 2 [(0, .ref a0), (1, .ref a1), (2, .int x2)] [] (M, L, R, K) r S'
  unfold b_X7_earn_2 at h
  refine rn_iload_n (q := 2) 2 rfl zd_X7_earn_0.1.1.2.1 ?_
  refine rn_aload_n (q := 1) 1 rfl zd_X7_earn_0.1.1.2.2 ?_
  refine rn_getI zf_X7_87 (Or.inl rfl) k_a1 zd_X7_earn_0.1.2.1.1 ?_
  rcases zif_e h with ⟨hc1, h⟩ | ⟨hc1, h⟩
  · refine rn_icmp_ge_t (tgt := 55) hc1 zd_X7_earn_0.1.2.1.2 rfl ?_
    cases h
    exact rn_sub (ls' := []) [] rfl hk
  · refine rn_icmp_ge_f (tgt := 55) hc1 zd_X7_earn_0.1.2.1.2 rfl ?_
    refine rn_aload_n (q := 0) 0 rfl zd_X7_earn_0.1.2.2.1 ?_
    refine rn_aload_n (q := 1) 1 rfl zd_X7_earn_0.1.2.2.2 ?_
    refine rn_iload_n (q := 2) 2 rfl zd_X7_earn_0.2.1.1.1 ?_
    refine rn_aload_n (q := 0) 0 rfl zd_X7_earn_0.2.1.1.2 ?_
    refine rn_getR zf_X7_18 (Or.inl ⟨_, rfl⟩) k_a0 (zx_7_1 hW k_a0) zd_X7_earn_0.2.1.2.1 ?_
    refine rn_getI zf_X7_71 (Or.inr rfl) (zw_7_1 hW k_a0) zd_X7_earn_0.2.1.2.2 ?_
    obtain ⟨M2, h3, h⟩ := zbd_e h
    refine rn_callVv (As := [.ref a1, .int x2, .int (M (R a0 1) 4)]) (rest := []) zl_X7_67 zm_X7_look ⟨by decide, by decide⟩ (ci := 7) rfl rfl (by decide) k_a0 rfl rfl (Nat.le_of_ble_eq_true rfl) zd_X7_earn_0.2.2.1.1 (ok_X7_look hW k_a0 k_a1 h3) ?_
    refine rn_aload_n (q := 1) 1 rfl zd_X7_earn_0.2.2.1.2 ?_
    refine rn_iload_n (q := 2) 2 rfl zd_X7_earn_0.2.2.2.1 ?_
    refine rn_iconst (v := 0) zd_X7_earn_0.2.2.2.2 rfl ?_
    refine rn_aload_n (q := 0) 0 rfl zd_X7_earn_1.1.1.1 ?_
    refine rn_getR zf_X7_18 (Or.inl ⟨_, rfl⟩) k_a0 (zx_7_1 hW k_a0) zd_X7_earn_1.1.1.2.1 ?_
    refine rn_aload_n (q := 0) 0 rfl zd_X7_earn_1.1.1.2.2 ?_
    refine rn_getR zf_X7_25 (Or.inr ⟨_, rfl⟩) k_a0 (zx_7_3 hW k_a0) zd_X7_earn_1.1.2.1 ?_
    obtain ⟨r4, M5, h6, h⟩ := zbd2_e h
    refine rn_callVi (As := [.ref (R a0 3)]) (rest := [.int (0 : Int32), .int x2, .ref a1]) zl_X7_74 zm_X3_value ⟨by decide, by decide⟩ (ci := 3) rfl rfl (by decide) (zw_7_1 hW k_a0) rfl rfl (Nat.le_of_ble_eq_true rfl) zd_X7_earn_1.1.2.2.1 (ok_X3_value hW (zw_7_1 hW k_a0) (zw_7_3 hW k_a0) h6) ?_
    refine rn_sipush (v := 999) zd_X7_earn_1.1.2.2.2 rfl ?_
    refine rn_min zb_X7_78 zms_min zmi zmc_min ⟨by decide, by decide⟩ (Nat.le_of_ble_eq_true rfl) zd_X7_earn_1.2.1.1 ?_
    refine rn_max zb_X7_84 zms_max zmi zmc_max ⟨by decide, by decide⟩ (Nat.le_of_ble_eq_true rfl) zd_X7_earn_1.2.1.2.1 ?_
    obtain ⟨M7, h8, h⟩ := zbd_e h
    refine rn_callVv (As := [.int x2, .int (if (0 : Int32) < (if (999 : Int32) < r4 then (999 : Int32) else r4) then (if (999 : Int32) < r4 then (999 : Int32) else r4) else (0 : Int32))]) (rest := []) zl_X7_121 zm_X6_earn ⟨by decide, by decide⟩ (ci := 6) rfl rfl (by decide) k_a1 rfl rfl (Nat.le_of_ble_eq_true rfl) zd_X7_earn_1.2.1.2.2 (ok_X6_earn hW k_a1 h8) ?_
    refine rn_iinc (v := (x2 + 1)) (ls' := [(2, .int (x2 + 1)), (0, .ref a0), (1, .ref a1)]) 2 rfl rfl (by decide) rfl zd_X7_earn_1.2.2.1 ?_
    refine rn_goto (tgt := 2) zd_X7_earn_1.2.2.2.1 rfl ?_
    cases h
    exact rn_sub (ls' := [(0, .ref a0), (1, .ref a1), (2, .int (x2 + 1))]) [1, 2, 0] rfl hk
def f_X7_earn (R : zR) (M : zM) (a0 : Nat) (a1 : Nat) : Option (zM) :=
  zbd (zloop zN (fun v => b_X7_earn_2 R v.2 a0 a1 v.1) ((0 : Int32), M)) fun e9 =>
  some e9
set_option maxRecDepth 4000 in
theorem ok_X7_earn {G : zG} {K : zK} {R : zR} {M : zM} {L : zL} (hW : zWT R K) {a0 : Nat} {a1 : Nat} (k_a0 : K[a0]? = some (7, 11)) (k_a1 : K[a1]? = some (6, 8)) {M' : zM} (h : f_X7_earn R M a0 a1 = some M') : Rm G mt_X7_earn [.ref a0, .ref a1] (M, L, R, K) none (M', L, R, K) := by
  refine rm_rn rfl rfl (Nat.le_of_ble_eq_true rfl) ?_
  show Rn G mt_X7_earn 0 [(0, .ref a0), (1, .ref a1)] [] (M, L, R, K) none (M', L, R, K)
  unfold f_X7_earn at h
  refine rn_iconst (v := 0) zd_X7_earn_0.1.1.1.1 rfl ?_
  refine rn_istore_n (q := 2) (ls' := [(2, .int (0 : Int32)), (0, .ref a0), (1, .ref a1)]) (by decide) rfl zd_X7_earn_0.1.1.1.2 ?_
  obtain ⟨e9, he9, h⟩ := zbd_e h
  refine rn_sub (ls' := [(0, .ref a0), (1, .ref a1), (2, .int (0 : Int32))]) [1, 2, 0] rfl (zloop_ok (P := P_X7_earn_2 G K R L a0 a1 none (M', L, R, K)) (Q := Q_X7_earn_2 G K R L a0 a1 none (M', L, R, K)) (fun v x hx hq => ok_b_X7_earn_2 hW k_a0 k_a1 hx hq) _ _ _ he9 ?_)
  show Rn G mt_X7_earn 55 [] [] (e9, L, R, K) none (M', L, R, K)
  cases h
  exact rn_vret zd_X7_earn_1.2.2.2.2 rfl
abbrev P_X7_payAtOnce_2 (G : zG) (K : zK) (R : zR) (L : zL) (a0 : Nat) (a1 : Nat) (r : Option Value) (S' : zS) (v : Int32 × zM) : Prop := Rn G mt_X7_payAtOnce 2 [(0, .ref a0), (1, .ref a1), (2, .int v.1)] [] (v.2, L, R, K) r S'
abbrev Q_X7_payAtOnce_2 (G : zG) (K : zK) (R : zR) (L : zL) (a0 : Nat) (a1 : Nat) (r : Option Value) (S' : zS) : (zM) → Prop := (fun e => Rn G mt_X7_payAtOnce 37 [(0, .ref a0), (1, .ref a1)] [] (e, L, R, K) r S')
def nb_X7_payAtOnce_2 (R : zR) (M : zM) (L : zL) (a0 : Nat) (a1 : Nat) (x2 : Int32) : Option ((Int32 × zM) ⊕ ((zM))) :=
  if (M a1 4) ≤ x2 then (
    some (.inr M)
  ) else (
    if (10 : Int32) ≤ x2 then (
      some (.inr M)
    ) else (
      zbd2 (f_X7_wanted R M a0 a1 x2) fun r3 M4 =>
      zck (zin x2 10) <|
      zlt (zup M4 (R a0 4) (ztn x2) r3) fun M7 =>
      some (.inl ((x2 + 1), M7))
    )
  )
set_option maxRecDepth 4000 in
theorem ok_b_X7_payAtOnce_2 {G : zG} {K : zK} {R : zR} {M : zM} {L : zL} (hW : zWT R K) {a0 : Nat} {a1 : Nat} {x2 : Int32} (k_a0 : K[a0]? = some (7, 11)) (k_a1 : K[a1]? = some (6, 8)) {r : Option Value} {S' : zS} {x : (Int32 × zM) ⊕ ((zM))} (h : nb_X7_payAtOnce_2 R M L a0 a1 x2 = some x) (hk : Sum.elim (P_X7_payAtOnce_2 G K R L a0 a1 r S') (Q_X7_payAtOnce_2 G K R L a0 a1 r S') x) : P_X7_payAtOnce_2 G K R L a0 a1 r S' (x2, M) := by
  show Rn G mt_X7_payAtOnce 2 [(0, .ref a0), (1, .ref a1), (2, .int x2)] [] (M, L, R, K) r S'
  unfold nb_X7_payAtOnce_2 at h
  refine rn_iload_n (q := 2) 2 rfl zd_X7_payAtOnce_0.1.1.2.1 ?_
  refine rn_aload_n (q := 1) 1 rfl zd_X7_payAtOnce_0.1.1.2.2 ?_
  refine rn_getI zf_X7_87 (Or.inl rfl) k_a1 zd_X7_payAtOnce_0.1.2.1.1 ?_
  rcases zif_e h with ⟨hc1, h⟩ | ⟨hc1, h⟩
  · refine rn_icmp_ge_t (tgt := 37) hc1 zd_X7_payAtOnce_0.1.2.1.2 rfl ?_
    cases h
    exact rn_sub (ls' := [(0, .ref a0), (1, .ref a1)]) [0, 1] rfl hk
  · refine rn_icmp_ge_f (tgt := 37) hc1 zd_X7_payAtOnce_0.1.2.1.2 rfl ?_
    refine rn_iload_n (q := 2) 2 rfl zd_X7_payAtOnce_0.1.2.2.1 ?_
    refine rn_aload_n (q := 0) 0 rfl zd_X7_payAtOnce_0.1.2.2.2 ?_
    refine rn_getR zf_X7_28 (Or.inr ⟨_, rfl⟩) k_a0 (zx_7_4 hW k_a0) zd_X7_payAtOnce_0.2.1.1.1 ?_
    refine rn_alen (v := 10) (zw_7_4 hW k_a0) (Or.inl rfl) rfl zd_X7_payAtOnce_0.2.1.1.2 ?_
    rcases zif_e h with ⟨hc2, h⟩ | ⟨hc2, h⟩
    · refine rn_icmp_ge_t (tgt := 37) hc2 zd_X7_payAtOnce_0.2.1.2.1 rfl ?_
      cases h
      exact rn_sub (ls' := [(0, .ref a0), (1, .ref a1)]) [0, 1] rfl hk
    · refine rn_icmp_ge_f (tgt := 37) hc2 zd_X7_payAtOnce_0.2.1.2.1 rfl ?_
      refine rn_aload_n (q := 0) 0 rfl zd_X7_payAtOnce_0.2.1.2.2 ?_
      refine rn_getR zf_X7_28 (Or.inr ⟨_, rfl⟩) k_a0 (zx_7_4 hW k_a0) zd_X7_payAtOnce_0.2.2.1.1 ?_
      refine rn_iload_n (q := 2) 2 rfl zd_X7_payAtOnce_0.2.2.1.2 ?_
      refine rn_aload_n (q := 0) 0 rfl zd_X7_payAtOnce_0.2.2.2.1 ?_
      refine rn_aload_n (q := 1) 1 rfl zd_X7_payAtOnce_0.2.2.2.2 ?_
      refine rn_iload_n (q := 2) 2 rfl zd_X7_payAtOnce_1.1.1.1.1 ?_
      obtain ⟨r3, M4, h5, h⟩ := zbd2_e h
      refine rn_callVi (As := [.ref a1, .int x2]) (rest := [.int x2, .ref (R a0 4)]) zl_X7_124 zm_X7_wanted ⟨by decide, by decide⟩ (ci := 7) rfl rfl (by decide) k_a0 rfl rfl (Nat.le_of_ble_eq_true rfl) zd_X7_payAtOnce_1.1.1.1.2 (ok_X7_wanted hW k_a0 k_a1 h5) ?_
      obtain ⟨hc6, h⟩ := zck_e h
      obtain ⟨M7, hM7, h⟩ := zlt_e h
      refine rn_iast hM7 (zw_7_4 hW k_a0) hc6 zd_X7_payAtOnce_1.1.1.2.1 ?_
      refine rn_iinc (v := (x2 + 1)) (ls' := [(2, .int (x2 + 1)), (0, .ref a0), (1, .ref a1)]) 2 rfl rfl (by decide) rfl zd_X7_payAtOnce_1.1.1.2.2 ?_
      refine rn_goto (tgt := 2) zd_X7_payAtOnce_1.1.2.1.1 rfl ?_
      cases h
      exact rn_sub (ls' := [(0, .ref a0), (1, .ref a1), (2, .int (x2 + 1))]) [1, 2, 0] rfl hk
abbrev P_X7_payAtOnce_39 (G : zG) (K : zK) (R : zR) (a0 : Nat) (a1 : Nat) (r : Option Value) (S' : zS) (v : Int32 × zM × zL) : Prop := Rn G mt_X7_payAtOnce 39 [(0, .ref a0), (1, .ref a1), (2, .int v.1)] [] (v.2.1, v.2.2, R, K) r S'
abbrev Q_X7_payAtOnce_39 (G : zG) (K : zK) (R : zR) (a0 : Nat) (a1 : Nat) (r : Option Value) (S' : zS) : (zM × zL) → Prop := (fun e => Rn G mt_X7_payAtOnce 73 [] [] (e.1, e.2, R, K) r S')
def nb_X7_payAtOnce_39 (R : zR) (M : zM) (L : zL) (a0 : Nat) (a1 : Nat) (x2 : Int32) : Option ((Int32 × zM × zL) ⊕ ((zM × zL))) :=
  if (M a1 4) ≤ x2 then (
    some (.inr (M, L))
  ) else (
    if (10 : Int32) ≤ x2 then (
      some (.inr (M, L))
    ) else (
      zck (zin x2 10) <|
      zbd2 (n_X6_pay R M L a1 x2 (M (R a0 4) (ztn x2))) fun M12 L13 =>
      some (.inl ((x2 + 1), M12, L13))
    )
  )
set_option maxRecDepth 4000 in
theorem ok_b_X7_payAtOnce_39 {G : zG} {K : zK} {R : zR} {M : zM} {L : zL} (hW : zWT R K) {a0 : Nat} {a1 : Nat} {x2 : Int32} (k_a0 : K[a0]? = some (7, 11)) (k_a1 : K[a1]? = some (6, 8)) {r : Option Value} {S' : zS} {x : (Int32 × zM × zL) ⊕ ((zM × zL))} (h : nb_X7_payAtOnce_39 R M L a0 a1 x2 = some x) (hk : Sum.elim (P_X7_payAtOnce_39 G K R a0 a1 r S') (Q_X7_payAtOnce_39 G K R a0 a1 r S') x) : P_X7_payAtOnce_39 G K R a0 a1 r S' (x2, M, L) := by
  show Rn G mt_X7_payAtOnce 39 [(0, .ref a0), (1, .ref a1), (2, .int x2)] [] (M, L, R, K) r S'
  unfold nb_X7_payAtOnce_39 at h
  refine rn_iload_n (q := 2) 2 rfl zd_X7_payAtOnce_1.1.2.2.2 ?_
  refine rn_aload_n (q := 1) 1 rfl zd_X7_payAtOnce_1.2.1.1.1 ?_
  refine rn_getI zf_X7_87 (Or.inl rfl) k_a1 zd_X7_payAtOnce_1.2.1.1.2 ?_
  rcases zif_e h with ⟨hc9, h⟩ | ⟨hc9, h⟩
  · refine rn_icmp_ge_t (tgt := 73) hc9 zd_X7_payAtOnce_1.2.1.2.1 rfl ?_
    cases h
    exact rn_sub (ls' := []) [] rfl hk
  · refine rn_icmp_ge_f (tgt := 73) hc9 zd_X7_payAtOnce_1.2.1.2.1 rfl ?_
    refine rn_iload_n (q := 2) 2 rfl zd_X7_payAtOnce_1.2.1.2.2 ?_
    refine rn_aload_n (q := 0) 0 rfl zd_X7_payAtOnce_1.2.2.1.1 ?_
    refine rn_getR zf_X7_28 (Or.inr ⟨_, rfl⟩) k_a0 (zx_7_4 hW k_a0) zd_X7_payAtOnce_1.2.2.1.2 ?_
    refine rn_alen (v := 10) (zw_7_4 hW k_a0) (Or.inl rfl) rfl zd_X7_payAtOnce_1.2.2.2.1 ?_
    rcases zif_e h with ⟨hc10, h⟩ | ⟨hc10, h⟩
    · refine rn_icmp_ge_t (tgt := 73) hc10 zd_X7_payAtOnce_1.2.2.2.2 rfl ?_
      cases h
      exact rn_sub (ls' := []) [] rfl hk
    · refine rn_icmp_ge_f (tgt := 73) hc10 zd_X7_payAtOnce_1.2.2.2.2 rfl ?_
      refine rn_aload_n (q := 1) 1 rfl zd_X7_payAtOnce_2.1.1.1 ?_
      refine rn_iload_n (q := 2) 2 rfl zd_X7_payAtOnce_2.1.1.2 ?_
      refine rn_aload_n (q := 0) 0 rfl zd_X7_payAtOnce_2.1.2.1 ?_
      refine rn_getR zf_X7_28 (Or.inr ⟨_, rfl⟩) k_a0 (zx_7_4 hW k_a0) zd_X7_payAtOnce_2.1.2.2.1 ?_
      refine rn_iload_n (q := 2) 2 rfl zd_X7_payAtOnce_2.1.2.2.2 ?_
      obtain ⟨hc11, h⟩ := zck_e h
      refine rn_iald (zw_7_4 hW k_a0) hc11 zd_X7_payAtOnce_2.2.1.1 ?_
      obtain ⟨M12, L13, h14, h⟩ := zbd2_e h
      refine rn_callVv (As := [.int x2, .int (M (R a0 4) (ztn x2))]) (rest := []) zl_X7_128 zm_X6_pay ⟨by decide, by decide⟩ (ci := 6) rfl rfl (by decide) k_a1 rfl rfl (Nat.le_of_ble_eq_true rfl) zd_X7_payAtOnce_2.2.1.2 (ok_X6_pay hW k_a1 h14) ?_
      refine rn_iinc (v := (x2 + 1)) (ls' := [(2, .int (x2 + 1)), (0, .ref a0), (1, .ref a1)]) 2 rfl rfl (by decide) rfl zd_X7_payAtOnce_2.2.2.1 ?_
      refine rn_goto (tgt := 39) zd_X7_payAtOnce_2.2.2.2.1 rfl ?_
      cases h
      exact rn_sub (ls' := [(0, .ref a0), (1, .ref a1), (2, .int (x2 + 1))]) [1, 2, 0] rfl hk
def n_X7_payAtOnce (R : zR) (M : zM) (L : zL) (a0 : Nat) (a1 : Nat) : Option (zM × zL) :=
  zbd (zloop zN (fun v => nb_X7_payAtOnce_2 R v.2 L a0 a1 v.1) ((0 : Int32), M)) fun e8 =>
  zbd (zloop zN (fun v => nb_X7_payAtOnce_39 R v.2.1 v.2.2 a0 a1 v.1) ((0 : Int32), e8, L)) fun e15 =>
  some (e15.1, e15.2)
set_option maxRecDepth 4000 in
theorem ok_X7_payAtOnce {G : zG} {K : zK} {R : zR} {M : zM} {L : zL} (hW : zWT R K) {a0 : Nat} {a1 : Nat} (k_a0 : K[a0]? = some (7, 11)) (k_a1 : K[a1]? = some (6, 8)) {M' : zM} {L' : zL} (h : n_X7_payAtOnce R M L a0 a1 = some (M', L')) : Rm G mt_X7_payAtOnce [.ref a0, .ref a1] (M, L, R, K) none (M', L', R, K) := by
  refine rm_rn rfl rfl (Nat.le_of_ble_eq_true rfl) ?_
  show Rn G mt_X7_payAtOnce 0 [(0, .ref a0), (1, .ref a1)] [] (M, L, R, K) none (M', L', R, K)
  unfold n_X7_payAtOnce at h
  refine rn_iconst (v := 0) zd_X7_payAtOnce_0.1.1.1.1 rfl ?_
  refine rn_istore_n (q := 2) (ls' := [(2, .int (0 : Int32)), (0, .ref a0), (1, .ref a1)]) (by decide) rfl zd_X7_payAtOnce_0.1.1.1.2 ?_
  obtain ⟨e8, he8, h⟩ := zbd_e h
  refine rn_sub (ls' := [(0, .ref a0), (1, .ref a1), (2, .int (0 : Int32))]) [1, 2, 0] rfl (zloop_ok (P := P_X7_payAtOnce_2 G K R L a0 a1 none (M', L', R, K)) (Q := Q_X7_payAtOnce_2 G K R L a0 a1 none (M', L', R, K)) (fun v x hx hq => ok_b_X7_payAtOnce_2 hW k_a0 k_a1 hx hq) _ _ _ he8 ?_)
  show Rn G mt_X7_payAtOnce 37 [(0, .ref a0), (1, .ref a1)] [] (e8, L, R, K) none (M', L', R, K)
  refine rn_iconst (v := 0) zd_X7_payAtOnce_1.1.2.1.2 rfl ?_
  refine rn_istore_n (q := 2) (ls' := [(2, .int (0 : Int32)), (0, .ref a0), (1, .ref a1)]) (by decide) rfl zd_X7_payAtOnce_1.1.2.2.1 ?_
  obtain ⟨e15, he15, h⟩ := zbd_e h
  refine rn_sub (ls' := [(0, .ref a0), (1, .ref a1), (2, .int (0 : Int32))]) [1, 2, 0] rfl (zloop_ok (P := P_X7_payAtOnce_39 G K R a0 a1 none (M', L', R, K)) (Q := Q_X7_payAtOnce_39 G K R a0 a1 none (M', L', R, K)) (fun v x hx hq => ok_b_X7_payAtOnce_39 hW k_a0 k_a1 hx hq) _ _ _ he15 ?_)
  show Rn G mt_X7_payAtOnce 73 [] [] (e15.1, e15.2, R, K) none (M', L', R, K)
  cases h
  exact rn_vret zd_X7_payAtOnce_2.2.2.2.2 rfl
def nj_X7_evening_26 (R : zR) (M : zM) (L : zL) (a0 : Nat) (a1 : Nat) (x2 : Int32) : Option (zM × zL) :=
  zlt (zup M a1 6 ((M a1 6) + (1 : Int32))) fun M7 =>
  if (M7 a0 9) ≤ 0 then (
    some (M7, L)
  ) else (
    zck (znz (M7 a0 9)) <|
    if ((M7 a1 6) - (M7 a1 6) / (M7 a0 9) * (M7 a0 9)) = 0 then (
      zbd2 (n_X6_sharePot R M7 L a1 x2) fun M11 L12 =>
      some (M11, L12)
    ) else (
      some (M7, L)
    )
  )
set_option maxRecDepth 4000 in
theorem ok_j_X7_evening_26 {G : zG} {K : zK} {R : zR} {M : zM} {L : zL} (hW : zWT R K) {a0 : Nat} {a1 : Nat} {x2 : Int32} (k_a0 : K[a0]? = some (7, 11)) (k_a1 : K[a1]? = some (6, 8)) {M' : zM} {L' : zL} (h : nj_X7_evening_26 R M L a0 a1 x2 = some (M', L')) : Rn G mt_X7_evening 26 [(0, .ref a0), (1, .ref a1), (2, .int x2)] [] (M, L, R, K) none (M', L', R, K) := by
  unfold nj_X7_evening_26 at h
  refine rn_aload_n (q := 1) 1 rfl zd_X7_evening_0.2.2.2.1 ?_
  refine rn_dup zd_X7_evening_0.2.2.2.2 rfl ?_
  refine rn_getI zf_X7_95 (Or.inl rfl) k_a1 zd_X7_evening_1.1.1.1.1 ?_
  refine rn_iconst (v := 1) zd_X7_evening_1.1.1.1.2 rfl ?_
  refine rn_iadd zd_X7_evening_1.1.1.2.1 ?_
  obtain ⟨M7, hM7, h⟩ := zlt_e h
  refine rn_putI hM7 zf_X7_95 k_a1 zd_X7_evening_1.1.1.2.2 ?_
  refine rn_aload_n (q := 0) 0 rfl zd_X7_evening_1.1.2.1.1 ?_
  refine rn_getI zf_X7_55 (Or.inl rfl) k_a0 zd_X7_evening_1.1.2.1.2 ?_
  rcases zif_e h with ⟨hc8, h⟩ | ⟨hc8, h⟩
  · refine rn_if_le_t (tgt := 60) hc8 zd_X7_evening_1.1.2.2.1 rfl ?_
    cases h
    exact rn_vret zd_X7_evening_2 rfl
  · refine rn_if_le_f (tgt := 60) hc8 zd_X7_evening_1.1.2.2.1 rfl ?_
    refine rn_aload_n (q := 1) 1 rfl zd_X7_evening_1.1.2.2.2 ?_
    refine rn_getI zf_X7_95 (Or.inl rfl) k_a1 zd_X7_evening_1.2.1.1.1 ?_
    refine rn_aload_n (q := 0) 0 rfl zd_X7_evening_1.2.1.1.2 ?_
    refine rn_getI zf_X7_55 (Or.inl rfl) k_a0 zd_X7_evening_1.2.1.2.1 ?_
    obtain ⟨hc9, h⟩ := zck_e h
    refine rn_irem zd_X7_evening_1.2.1.2.2 (znz_e hc9) ?_
    rcases zif_e h with ⟨hc10, h⟩ | ⟨hc10, h⟩
    · refine rn_if_ne_f (tgt := 60) hc10 zd_X7_evening_1.2.2.1.1 rfl ?_
      refine rn_aload_n (q := 1) 1 rfl zd_X7_evening_1.2.2.1.2 ?_
      refine rn_iload_n (q := 2) 2 rfl zd_X7_evening_1.2.2.2.1 ?_
      obtain ⟨M11, L12, h13, h⟩ := zbd2_e h
      refine rn_callVv (As := [.int x2]) (rest := []) zl_X7_118 zm_X6_sharePot ⟨by decide, by decide⟩ (ci := 6) rfl rfl (by decide) k_a1 rfl rfl (Nat.le_of_ble_eq_true rfl) zd_X7_evening_1.2.2.2.2 (ok_X6_sharePot hW k_a1 h13) ?_
      cases h
      exact rn_vret zd_X7_evening_2 rfl
    · refine rn_if_ne_t (tgt := 60) hc10 zd_X7_evening_1.2.2.1.1 rfl ?_
      cases h
      exact rn_vret zd_X7_evening_2 rfl
def n_X7_evening (R : zR) (M : zM) (L : zL) (a0 : Nat) (a1 : Nat) (x2 : Int32) : Option (zM × zL) :=
  zbd (f_X7_earn R M a0 a1) fun M1 =>
  if (M1 a0 7) = 0 then (
    zbd2 (n_X7_payAtOnce R M1 L a0 a1) fun M4 L5 =>
    nj_X7_evening_26 R M4 L5 a0 a1 x2
  ) else (
    zbd2 (n_X7_payByTurns R M1 L a0 a1 (0 : Int32)) fun M14 L15 =>
    nj_X7_evening_26 R M14 L15 a0 a1 x2
  )
set_option maxRecDepth 4000 in
theorem ok_X7_evening {G : zG} {K : zK} {R : zR} {M : zM} {L : zL} (hW : zWT R K) {a0 : Nat} {a1 : Nat} {x2 : Int32} (k_a0 : K[a0]? = some (7, 11)) (k_a1 : K[a1]? = some (6, 8)) {M' : zM} {L' : zL} (h : n_X7_evening R M L a0 a1 x2 = some (M', L')) : Rm G mt_X7_evening [.ref a0, .ref a1, .int x2] (M, L, R, K) none (M', L', R, K) := by
  refine rm_rn rfl rfl (Nat.le_of_ble_eq_true rfl) ?_
  show Rn G mt_X7_evening 0 [(0, .ref a0), (1, .ref a1), (2, .int x2)] [] (M, L, R, K) none (M', L', R, K)
  unfold n_X7_evening at h
  refine rn_aload_n (q := 0) 0 rfl zd_X7_evening_0.1.1.1.1 ?_
  refine rn_aload_n (q := 1) 1 rfl zd_X7_evening_0.1.1.1.2 ?_
  obtain ⟨M1, h2, h⟩ := zbd_e h
  refine rn_callVv (As := [.ref a1]) (rest := []) zl_X7_108 zm_X7_earn ⟨by decide, by decide⟩ (ci := 7) rfl rfl (by decide) k_a0 rfl rfl (Nat.le_of_ble_eq_true rfl) zd_X7_evening_0.1.1.2.1 (ok_X7_earn hW k_a0 k_a1 h2) ?_
  refine rn_aload_n (q := 0) 0 rfl zd_X7_evening_0.1.1.2.2 ?_
  refine rn_getI zf_X7_49 (Or.inr rfl) k_a0 zd_X7_evening_0.1.2.1.1 ?_
  rcases zif_e h with ⟨hc3, h⟩ | ⟨hc3, h⟩
  · refine rn_if_eq_t (tgt := 21) hc3 zd_X7_evening_0.1.2.1.2 rfl ?_
    refine rn_aload_n (q := 0) 0 rfl zd_X7_evening_0.2.1.2.2 ?_
    refine rn_aload_n (q := 1) 1 rfl zd_X7_evening_0.2.2.1.1 ?_
    obtain ⟨M4, L5, h6, h⟩ := zbd2_e h
    refine rn_callVv (As := [.ref a1]) (rest := []) zl_X7_115 zm_X7_payAtOnce ⟨by decide, by decide⟩ (ci := 7) rfl rfl (by decide) k_a0 rfl rfl (Nat.le_of_ble_eq_true rfl) zd_X7_evening_0.2.2.1.2 (ok_X7_payAtOnce hW k_a0 k_a1 h6) ?_
    exact rn_sub (ls' := [(0, .ref a0), (1, .ref a1), (2, .int x2)]) [0, 1, 2] rfl (ok_j_X7_evening_26 hW k_a0 k_a1 h)
  · refine rn_if_eq_f (tgt := 21) hc3 zd_X7_evening_0.1.2.1.2 rfl ?_
    refine rn_aload_n (q := 0) 0 rfl zd_X7_evening_0.1.2.2.1 ?_
    refine rn_aload_n (q := 1) 1 rfl zd_X7_evening_0.1.2.2.2 ?_
    refine rn_iconst (v := 0) zd_X7_evening_0.2.1.1.1 rfl ?_
    obtain ⟨M14, L15, h16, h⟩ := zbd2_e h
    refine rn_callVv (As := [.ref a1, .int (0 : Int32)]) (rest := []) zl_X7_112 zm_X7_payByTurns ⟨by decide, by decide⟩ (ci := 7) rfl rfl (by decide) k_a0 rfl rfl (Nat.le_of_ble_eq_true rfl) zd_X7_evening_0.2.1.1.2 (ok_X7_payByTurns hW k_a0 k_a1 h16) ?_
    refine rn_goto (tgt := 26) zd_X7_evening_0.2.1.2.1 rfl ?_
    exact rn_sub (ls' := [(0, .ref a0), (1, .ref a1), (2, .int x2)]) [0, 1, 2] rfl (ok_j_X7_evening_26 hW k_a0 k_a1 h)
def f_X6_move (R : zR) (M : zM) (a0 : Nat) (x1 : Int32) (x2 : Int32) (x3 : Int32) : Option (zM) :=
  zbd (f_X6_has M a0 x1) fun r1 =>
  if r1 = 0 then (
    some M
  ) else (
    zbd (f_X6_has M a0 x2) fun r4 =>
    if r4 = 0 then (
      some M
    ) else (
      zck (zin x1 10) <|
      zck (zin x1 10) <|
      zlt (zup M (R a0 0) (ztn x1) ((M (R a0 0) (ztn x1)) - x3)) fun M9 =>
      zck (zin x2 10) <|
      zck (zin x2 10) <|
      zlt (zup M9 (R a0 0) (ztn x2) ((M9 (R a0 0) (ztn x2)) + x3)) fun M12 =>
      some M12
    )
  )
set_option maxRecDepth 4000 in
theorem ok_X6_move {G : zG} {K : zK} {R : zR} {M : zM} {L : zL} (hW : zWT R K) {a0 : Nat} {x1 : Int32} {x2 : Int32} {x3 : Int32} (k_a0 : K[a0]? = some (6, 8)) {M' : zM} (h : f_X6_move R M a0 x1 x2 x3 = some M') : Rm G mt_X6_move [.ref a0, .int x1, .int x2, .int x3] (M, L, R, K) none (M', L, R, K) := by
  refine rm_rn rfl rfl (Nat.le_of_ble_eq_true rfl) ?_
  show Rn G mt_X6_move 0 [(0, .ref a0), (1, .int x1), (2, .int x2), (3, .int x3)] [] (M, L, R, K) none (M', L, R, K)
  unfold f_X6_move at h
  refine rn_aload_n (q := 0) 0 rfl zd_X6_move_0.1.1.1.1 ?_
  refine rn_iload_n (q := 1) 1 rfl zd_X6_move_0.1.1.1.2 ?_
  obtain ⟨r1, h2, h⟩ := zbd_e h
  refine rn_callVi (As := [.int x1]) (rest := []) zl_X6_48 zm_X6_has ⟨by decide, by decide⟩ (ci := 6) rfl rfl (by decide) k_a0 rfl rfl (Nat.le_of_ble_eq_true rfl) zd_X6_move_0.1.1.2.1 (ok_X6_has hW k_a0 h2) ?_
  rcases zif_e h with ⟨hc3, h⟩ | ⟨hc3, h⟩
  · refine rn_if_eq_t (tgt := 16) hc3 zd_X6_move_0.1.1.2.2 rfl ?_
    cases h
    exact rn_vret zd_X6_move_0.2.1.1.1 rfl
  · refine rn_if_eq_f (tgt := 16) hc3 zd_X6_move_0.1.1.2.2 rfl ?_
    refine rn_aload_n (q := 0) 0 rfl zd_X6_move_0.1.2.1.1 ?_
    refine rn_iload_n (q := 2) 2 rfl zd_X6_move_0.1.2.1.2 ?_
    obtain ⟨r4, h5, h⟩ := zbd_e h
    refine rn_callVi (As := [.int x2]) (rest := []) zl_X6_48 zm_X6_has ⟨by decide, by decide⟩ (ci := 6) rfl rfl (by decide) k_a0 rfl rfl (Nat.le_of_ble_eq_true rfl) zd_X6_move_0.1.2.2.1 (ok_X6_has hW k_a0 h5) ?_
    rcases zif_e h with ⟨hc6, h⟩ | ⟨hc6, h⟩
    · refine rn_if_ne_f (tgt := 17) hc6 zd_X6_move_0.1.2.2.2 rfl ?_
      cases h
      exact rn_vret zd_X6_move_0.2.1.1.1 rfl
    · refine rn_if_ne_t (tgt := 17) hc6 zd_X6_move_0.1.2.2.2 rfl ?_
      refine rn_aload_n (q := 0) 0 rfl zd_X6_move_0.2.1.1.2 ?_
      refine rn_getR zf_X6_9 (Or.inr ⟨_, rfl⟩) k_a0 (zx_6_0 hW k_a0) zd_X6_move_0.2.1.2.1 ?_
      refine rn_iload_n (q := 1) 1 rfl zd_X6_move_0.2.1.2.2 ?_
      refine rn_dup2 zd_X6_move_0.2.2.1.1 rfl rfl ?_
      obtain ⟨hc7, h⟩ := zck_e h
      refine rn_iald (zw_6_0 hW k_a0) hc7 zd_X6_move_0.2.2.1.2 ?_
      refine rn_iload_n (q := 3) 3 rfl zd_X6_move_0.2.2.2.1 ?_
      refine rn_isub zd_X6_move_0.2.2.2.2 ?_
      obtain ⟨hc8, h⟩ := zck_e h
      obtain ⟨M9, hM9, h⟩ := zlt_e h
      refine rn_iast hM9 (zw_6_0 hW k_a0) hc8 zd_X6_move_1.1.1.1 ?_
      refine rn_aload_n (q := 0) 0 rfl zd_X6_move_1.1.1.2 ?_
      refine rn_getR zf_X6_9 (Or.inr ⟨_, rfl⟩) k_a0 (zx_6_0 hW k_a0) zd_X6_move_1.1.2.1 ?_
      refine rn_iload_n (q := 2) 2 rfl zd_X6_move_1.1.2.2.1 ?_
      refine rn_dup2 zd_X6_move_1.1.2.2.2 rfl rfl ?_
      obtain ⟨hc10, h⟩ := zck_e h
      refine rn_iald (zw_6_0 hW k_a0) hc10 zd_X6_move_1.2.1.1 ?_
      refine rn_iload_n (q := 3) 3 rfl zd_X6_move_1.2.1.2 ?_
      refine rn_iadd zd_X6_move_1.2.2.1 ?_
      obtain ⟨hc11, h⟩ := zck_e h
      obtain ⟨M12, hM12, h⟩ := zlt_e h
      refine rn_iast hM12 (zw_6_0 hW k_a0) hc11 zd_X6_move_1.2.2.2.1 ?_
      cases h
      exact rn_vret zd_X6_move_1.2.2.2.2 rfl
abbrev P_X7_evenings_3 (G : zG) (K : zK) (R : zR) (a0 : Nat) (a1 : Nat) (x2 : Int32) (x3 : Int32) (r : Option Value) (S' : zS) (v : Int32 × zM × zL) : Prop := Rn G mt_X7_evenings 3 [(0, .ref a0), (1, .ref a1), (2, .int x2), (3, .int x3), (4, .int v.1)] [] (v.2.1, v.2.2, R, K) r S'
abbrev Q_X7_evenings_3 (G : zG) (K : zK) (R : zR) (a0 : Nat) (a1 : Nat) (x2 : Int32) (x3 : Int32) (r : Option Value) (S' : zS) : (zM × zL) → Prop := (fun e => Rn G mt_X7_evenings 21 [] [] (e.1, e.2, R, K) r S')
def nb_X7_evenings_3 (R : zR) (M : zM) (L : zL) (a0 : Nat) (a1 : Nat) (x2 : Int32) (x3 : Int32) (x4 : Int32) : Option ((Int32 × zM × zL) ⊕ ((zM × zL))) :=
  if x2 ≤ x4 then (
    some (.inr (M, L))
  ) else (
    zbd2 (n_X7_evening R M L a0 a1 x3) fun M2 L3 =>
    some (.inl ((x4 + 1), M2, L3))
  )
set_option maxRecDepth 4000 in
theorem ok_b_X7_evenings_3 {G : zG} {K : zK} {R : zR} {M : zM} {L : zL} (hW : zWT R K) {a0 : Nat} {a1 : Nat} {x2 : Int32} {x3 : Int32} {x4 : Int32} (k_a0 : K[a0]? = some (7, 11)) (k_a1 : K[a1]? = some (6, 8)) {r : Option Value} {S' : zS} {x : (Int32 × zM × zL) ⊕ ((zM × zL))} (h : nb_X7_evenings_3 R M L a0 a1 x2 x3 x4 = some x) (hk : Sum.elim (P_X7_evenings_3 G K R a0 a1 x2 x3 r S') (Q_X7_evenings_3 G K R a0 a1 x2 x3 r S') x) : P_X7_evenings_3 G K R a0 a1 x2 x3 r S' (x4, M, L) := by
  show Rn G mt_X7_evenings 3 [(0, .ref a0), (1, .ref a1), (2, .int x2), (3, .int x3), (4, .int x4)] [] (M, L, R, K) r S'
  unfold nb_X7_evenings_3 at h
  refine rn_iload 4 rfl zd_X7_evenings_0.1.1.2.2 ?_
  refine rn_iload_n (q := 2) 2 rfl zd_X7_evenings_0.1.2.1 ?_
  rcases zif_e h with ⟨hc1, h⟩ | ⟨hc1, h⟩
  · refine rn_icmp_ge_t (tgt := 21) hc1 zd_X7_evenings_0.1.2.2.1 rfl ?_
    cases h
    exact rn_sub (ls' := []) [] rfl hk
  · refine rn_icmp_ge_f (tgt := 21) hc1 zd_X7_evenings_0.1.2.2.1 rfl ?_
    refine rn_aload_n (q := 0) 0 rfl zd_X7_evenings_0.1.2.2.2 ?_
    refine rn_aload_n (q := 1) 1 rfl zd_X7_evenings_0.2.1.1 ?_
    refine rn_iload_n (q := 3) 3 rfl zd_X7_evenings_0.2.1.2.1 ?_
    obtain ⟨M2, L3, h4, h⟩ := zbd2_e h
    refine rn_callVv (As := [.ref a1, .int x3]) (rest := []) zl_X7_105 zm_X7_evening ⟨by decide, by decide⟩ (ci := 7) rfl rfl (by decide) k_a0 rfl rfl (Nat.le_of_ble_eq_true rfl) zd_X7_evenings_0.2.1.2.2 (ok_X7_evening hW k_a0 k_a1 h4) ?_
    refine rn_iinc (v := (x4 + 1)) (ls' := [(4, .int (x4 + 1)), (0, .ref a0), (1, .ref a1), (2, .int x2), (3, .int x3)]) 4 rfl rfl (by decide) rfl zd_X7_evenings_0.2.2.1 ?_
    refine rn_goto (tgt := 3) zd_X7_evenings_0.2.2.2.1 rfl ?_
    cases h
    exact rn_sub (ls' := [(0, .ref a0), (1, .ref a1), (2, .int x2), (3, .int x3), (4, .int (x4 + 1))]) [1, 2, 3, 4, 0] rfl hk
def n_X7_evenings (R : zR) (M : zM) (L : zL) (a0 : Nat) (a1 : Nat) (x2 : Int32) (x3 : Int32) : Option (zM × zL) :=
  zbd (zloop zN (fun v => nb_X7_evenings_3 R v.2.1 v.2.2 a0 a1 x2 x3 v.1) ((0 : Int32), M, L)) fun e5 =>
  some (e5.1, e5.2)
set_option maxRecDepth 4000 in
theorem ok_X7_evenings {G : zG} {K : zK} {R : zR} {M : zM} {L : zL} (hW : zWT R K) {a0 : Nat} {a1 : Nat} {x2 : Int32} {x3 : Int32} (k_a0 : K[a0]? = some (7, 11)) (k_a1 : K[a1]? = some (6, 8)) {M' : zM} {L' : zL} (h : n_X7_evenings R M L a0 a1 x2 x3 = some (M', L')) : Rm G mt_X7_evenings [.ref a0, .ref a1, .int x2, .int x3] (M, L, R, K) none (M', L', R, K) := by
  refine rm_rn rfl rfl (Nat.le_of_ble_eq_true rfl) ?_
  show Rn G mt_X7_evenings 0 [(0, .ref a0), (1, .ref a1), (2, .int x2), (3, .int x3)] [] (M, L, R, K) none (M', L', R, K)
  unfold n_X7_evenings at h
  refine rn_iconst (v := 0) zd_X7_evenings_0.1.1.1 rfl ?_
  refine rn_istore (ls' := [(4, .int (0 : Int32)), (0, .ref a0), (1, .ref a1), (2, .int x2), (3, .int x3)]) (by decide) rfl zd_X7_evenings_0.1.1.2.1 ?_
  obtain ⟨e5, he5, h⟩ := zbd_e h
  refine rn_sub (ls' := [(0, .ref a0), (1, .ref a1), (2, .int x2), (3, .int x3), (4, .int (0 : Int32))]) [1, 2, 3, 4, 0] rfl (zloop_ok (P := P_X7_evenings_3 G K R a0 a1 x2 x3 none (M', L', R, K)) (Q := Q_X7_evenings_3 G K R a0 a1 x2 x3 none (M', L', R, K)) (fun v x hx hq => ok_b_X7_evenings_3 hW k_a0 k_a1 hx hq) _ _ _ he5 ?_)
  show Rn G mt_X7_evenings 21 [] [] (e5.1, e5.2, R, K) none (M', L', R, K)
  cases h
  exact rn_vret zd_X7_evenings_0.2.2.2.2 rfl
def n_X6_copyHouse (R : zR) (M : zM) (L : zL) (a0 : Nat) (x1 : Int32) (x2 : Int32) : Option (zM × zL) :=
  if x1 < 0 then (
    some (M, L)
  ) else (
    if (10 : Int32) ≤ x1 then (
      some (M, L)
    ) else (
      if x2 < 0 then (
        some (M, L)
      ) else (
        if x2 < (10 : Int32) then (
          zck (zin x1 10) <|
          zck (zin x2 10) <|
          zlt (zup M (R a0 0) (ztn x2) (M (R a0 0) (ztn x1))) fun M7 =>
          zck (zin x1 10) <|
          zck (zin x2 10) <|
          zlt (zup M7 (R a0 1) (ztn x2) (M7 (R a0 1) (ztn x1))) fun M10 =>
          zck (zin x1 10) <|
          zck (zin x2 10) <|
          zlt (zup M10 (R a0 2) (ztn x2) (M10 (R a0 2) (ztn x1))) fun M13 =>
          zck (zin x1 10) <|
          zck (zin x2 10) <|
          zlt (zupL L (R a0 3) (ztn x2) (L (R a0 3) (ztn x1))) fun L16 =>
          some (M13, L16)
        ) else (
          some (M, L)
        )
      )
    )
  )
set_option maxRecDepth 4000 in
theorem ok_X6_copyHouse {G : zG} {K : zK} {R : zR} {M : zM} {L : zL} (hW : zWT R K) {a0 : Nat} {x1 : Int32} {x2 : Int32} (k_a0 : K[a0]? = some (6, 8)) {M' : zM} {L' : zL} (h : n_X6_copyHouse R M L a0 x1 x2 = some (M', L')) : Rm G mt_X6_copyHouse [.ref a0, .int x1, .int x2] (M, L, R, K) none (M', L', R, K) := by
  refine rm_rn rfl rfl (Nat.le_of_ble_eq_true rfl) ?_
  show Rn G mt_X6_copyHouse 0 [(0, .ref a0), (1, .int x1), (2, .int x2)] [] (M, L, R, K) none (M', L', R, K)
  unfold n_X6_copyHouse at h
  refine rn_iload_n (q := 1) 1 rfl zd_X6_copyHouse_0.1.1.1.1 ?_
  rcases zif_e h with ⟨hc1, h⟩ | ⟨hc1, h⟩
  · refine rn_if_lt_t (tgt := 20) hc1 zd_X6_copyHouse_0.1.1.1.2 rfl ?_
    cases h
    exact rn_vret zd_X6_copyHouse_0.2.1.2.1 rfl
  · refine rn_if_lt_f (tgt := 20) hc1 zd_X6_copyHouse_0.1.1.1.2 rfl ?_
    refine rn_iload_n (q := 1) 1 rfl zd_X6_copyHouse_0.1.1.2.1 ?_
    refine rn_bipush (v := 10) zd_X6_copyHouse_0.1.1.2.2 rfl ?_
    rcases zif_e h with ⟨hc2, h⟩ | ⟨hc2, h⟩
    · refine rn_icmp_ge_t (tgt := 20) hc2 zd_X6_copyHouse_0.1.2.1.1 rfl ?_
      cases h
      exact rn_vret zd_X6_copyHouse_0.2.1.2.1 rfl
    · refine rn_icmp_ge_f (tgt := 20) hc2 zd_X6_copyHouse_0.1.2.1.1 rfl ?_
      refine rn_iload_n (q := 2) 2 rfl zd_X6_copyHouse_0.1.2.1.2 ?_
      rcases zif_e h with ⟨hc3, h⟩ | ⟨hc3, h⟩
      · refine rn_if_lt_t (tgt := 20) hc3 zd_X6_copyHouse_0.1.2.2.1 rfl ?_
        cases h
        exact rn_vret zd_X6_copyHouse_0.2.1.2.1 rfl
      · refine rn_if_lt_f (tgt := 20) hc3 zd_X6_copyHouse_0.1.2.2.1 rfl ?_
        refine rn_iload_n (q := 2) 2 rfl zd_X6_copyHouse_0.1.2.2.2 ?_
        refine rn_bipush (v := 10) zd_X6_copyHouse_0.2.1.1.1 rfl ?_
        rcases zif_e h with ⟨hc4, h⟩ | ⟨hc4, h⟩
        · refine rn_icmp_lt_t (tgt := 21) hc4 zd_X6_copyHouse_0.2.1.1.2 rfl ?_
          refine rn_aload_n (q := 0) 0 rfl zd_X6_copyHouse_0.2.1.2.2 ?_
          refine rn_getR zf_X6_9 (Or.inr ⟨_, rfl⟩) k_a0 (zx_6_0 hW k_a0) zd_X6_copyHouse_0.2.2.1.1 ?_
          refine rn_iload_n (q := 2) 2 rfl zd_X6_copyHouse_0.2.2.1.2 ?_
          refine rn_aload_n (q := 0) 0 rfl zd_X6_copyHouse_0.2.2.2.1 ?_
          refine rn_getR zf_X6_9 (Or.inr ⟨_, rfl⟩) k_a0 (zx_6_0 hW k_a0) zd_X6_copyHouse_0.2.2.2.2 ?_
          refine rn_iload_n (q := 1) 1 rfl zd_X6_copyHouse_1.1.1.1.1 ?_
          obtain ⟨hc5, h⟩ := zck_e h
          refine rn_iald (zw_6_0 hW k_a0) hc5 zd_X6_copyHouse_1.1.1.1.2 ?_
          obtain ⟨hc6, h⟩ := zck_e h
          obtain ⟨M7, hM7, h⟩ := zlt_e h
          refine rn_iast hM7 (zw_6_0 hW k_a0) hc6 zd_X6_copyHouse_1.1.1.2.1 ?_
          refine rn_aload_n (q := 0) 0 rfl zd_X6_copyHouse_1.1.1.2.2 ?_
          refine rn_getR zf_X6_15 (Or.inr ⟨_, rfl⟩) k_a0 (zx_6_1 hW k_a0) zd_X6_copyHouse_1.1.2.1.1 ?_
          refine rn_iload_n (q := 2) 2 rfl zd_X6_copyHouse_1.1.2.1.2 ?_
          refine rn_aload_n (q := 0) 0 rfl zd_X6_copyHouse_1.1.2.2.1 ?_
          refine rn_getR zf_X6_15 (Or.inr ⟨_, rfl⟩) k_a0 (zx_6_1 hW k_a0) zd_X6_copyHouse_1.1.2.2.2 ?_
          refine rn_iload_n (q := 1) 1 rfl zd_X6_copyHouse_1.2.1.1.1 ?_
          obtain ⟨hc8, h⟩ := zck_e h
          refine rn_iald (zw_6_1 hW k_a0) hc8 zd_X6_copyHouse_1.2.1.1.2 ?_
          obtain ⟨hc9, h⟩ := zck_e h
          obtain ⟨M10, hM10, h⟩ := zlt_e h
          refine rn_iast hM10 (zw_6_1 hW k_a0) hc9 zd_X6_copyHouse_1.2.1.2.1 ?_
          refine rn_aload_n (q := 0) 0 rfl zd_X6_copyHouse_1.2.1.2.2 ?_
          refine rn_getR zf_X6_18 (Or.inr ⟨_, rfl⟩) k_a0 (zx_6_2 hW k_a0) zd_X6_copyHouse_1.2.2.1.1 ?_
          refine rn_iload_n (q := 2) 2 rfl zd_X6_copyHouse_1.2.2.1.2 ?_
          refine rn_aload_n (q := 0) 0 rfl zd_X6_copyHouse_1.2.2.2.1 ?_
          refine rn_getR zf_X6_18 (Or.inr ⟨_, rfl⟩) k_a0 (zx_6_2 hW k_a0) zd_X6_copyHouse_1.2.2.2.2 ?_
          refine rn_iload_n (q := 1) 1 rfl zd_X6_copyHouse_2.1.1.1 ?_
          obtain ⟨hc11, h⟩ := zck_e h
          refine rn_iald (zw_6_2 hW k_a0) hc11 zd_X6_copyHouse_2.1.1.2.1 ?_
          obtain ⟨hc12, h⟩ := zck_e h
          obtain ⟨M13, hM13, h⟩ := zlt_e h
          refine rn_iast hM13 (zw_6_2 hW k_a0) hc12 zd_X6_copyHouse_2.1.1.2.2 ?_
          refine rn_aload_n (q := 0) 0 rfl zd_X6_copyHouse_2.1.2.1 ?_
          refine rn_getR zf_X6_21 (Or.inr ⟨_, rfl⟩) k_a0 (zx_6_3 hW k_a0) zd_X6_copyHouse_2.1.2.2.1 ?_
          refine rn_iload_n (q := 2) 2 rfl zd_X6_copyHouse_2.1.2.2.2 ?_
          refine rn_aload_n (q := 0) 0 rfl zd_X6_copyHouse_2.2.1.1 ?_
          refine rn_getR zf_X6_21 (Or.inr ⟨_, rfl⟩) k_a0 (zx_6_3 hW k_a0) zd_X6_copyHouse_2.2.1.2.1 ?_
          refine rn_iload_n (q := 1) 1 rfl zd_X6_copyHouse_2.2.1.2.2 ?_
          obtain ⟨hc14, h⟩ := zck_e h
          refine rn_lald (zw_6_3 hW k_a0) hc14 zd_X6_copyHouse_2.2.2.1 ?_
          obtain ⟨hc15, h⟩ := zck_e h
          obtain ⟨L16, hL16, h⟩ := zlt_e h
          refine rn_last hL16 (zw_6_3 hW k_a0) hc15 zd_X6_copyHouse_2.2.2.2.1 ?_
          cases h
          exact rn_vret zd_X6_copyHouse_2.2.2.2.2 rfl
        · refine rn_icmp_lt_f (tgt := 21) hc4 zd_X6_copyHouse_0.2.1.1.2 rfl ?_
          cases h
          exact rn_vret zd_X6_copyHouse_0.2.1.2.1 rfl
def f_X6_isFull (M : zM) (a0 : Nat) : Option (Int32) :=
  if (M a0 4) < (10 : Int32) then (
    some (0 : Int32)
  ) else (
    some (1 : Int32)
  )
set_option maxRecDepth 4000 in
theorem ok_X6_isFull {G : zG} {K : zK} {R : zR} {M : zM} {L : zL} (hW : zWT R K) {a0 : Nat} (k_a0 : K[a0]? = some (6, 8)) {r' : Int32} (h : f_X6_isFull M a0 = some r') : Rm G mt_X6_isFull [.ref a0] (M, L, R, K) (some (.int r')) (M, L, R, K) := by
  refine rm_rn rfl rfl (Nat.le_of_ble_eq_true rfl) ?_
  show Rn G mt_X6_isFull 0 [(0, .ref a0)] [] (M, L, R, K) (some (.int r')) (M, L, R, K)
  unfold f_X6_isFull at h
  refine rn_aload_n (q := 0) 0 rfl zd_X6_isFull_0.1.1.1 ?_
  refine rn_getI zf_X6_25 (Or.inl rfl) k_a0 zd_X6_isFull_0.1.1.2 ?_
  refine rn_bipush (v := 10) zd_X6_isFull_0.1.2.1 rfl ?_
  rcases zif_e h with ⟨hc1, h⟩ | ⟨hc1, h⟩
  · refine rn_icmp_lt_t (tgt := 13) hc1 zd_X6_isFull_0.1.2.2 rfl ?_
    refine rn_iconst (v := 0) zd_X6_isFull_0.2.2.1 rfl ?_
    cases h
    exact rn_zret zd_X6_isFull_0.2.2.2 rfl rfl
  · refine rn_icmp_lt_f (tgt := 13) hc1 zd_X6_isFull_0.1.2.2 rfl ?_
    refine rn_iconst (v := 1) zd_X6_isFull_0.2.1.1 rfl ?_
    refine rn_goto (tgt := 14) zd_X6_isFull_0.2.1.2 rfl ?_
    cases h
    exact rn_zret zd_X6_isFull_0.2.2.2 rfl rfl
abbrev P_X6_insert_25 (G : zG) (K : zK) (R : zR) (a0 : Nat) (x1 : Int32) (x2 : Int32) (r : Option Value) (S' : zS) (v : Int32 × zM × zL) : Prop := Rn G mt_X6_insert 25 [(0, .ref a0), (1, .int x1), (2, .int x2), (3, .int v.1)] [] (v.2.1, v.2.2, R, K) r S'
abbrev Q_X6_insert_25 (G : zG) (K : zK) (R : zR) (a0 : Nat) (x1 : Int32) (x2 : Int32) (r : Option Value) (S' : zS) : (zM × zL) → Prop := (fun e => Rn G mt_X6_insert 44 [(0, .ref a0), (1, .int x1), (2, .int x2)] [] (e.1, e.2, R, K) r S')
def nb_X6_insert_25 (R : zR) (M : zM) (L : zL) (a0 : Nat) (x1 : Int32) (x2 : Int32) (x3 : Int32) : Option ((Int32 × zM × zL) ⊕ ((zM × zL))) :=
  if x3 ≤ x1 then (
    some (.inr (M, L))
  ) else (
    zbd2 (n_X6_copyHouse R M L a0 (x3 - (1 : Int32)) x3) fun M7 L8 =>
    some (.inl ((x3 + (-1)), M7, L8))
  )
set_option maxRecDepth 4000 in
theorem ok_b_X6_insert_25 {G : zG} {K : zK} {R : zR} {M : zM} {L : zL} (hW : zWT R K) {a0 : Nat} {x1 : Int32} {x2 : Int32} {x3 : Int32} (k_a0 : K[a0]? = some (6, 8)) {r : Option Value} {S' : zS} {x : (Int32 × zM × zL) ⊕ ((zM × zL))} (h : nb_X6_insert_25 R M L a0 x1 x2 x3 = some x) (hk : Sum.elim (P_X6_insert_25 G K R a0 x1 x2 r S') (Q_X6_insert_25 G K R a0 x1 x2 r S') x) : P_X6_insert_25 G K R a0 x1 x2 r S' (x3, M, L) := by
  show Rn G mt_X6_insert 25 [(0, .ref a0), (1, .int x1), (2, .int x2), (3, .int x3)] [] (M, L, R, K) r S'
  unfold nb_X6_insert_25 at h
  refine rn_iload_n (q := 3) 3 rfl zd_X6_insert_0.2.2.1.2 ?_
  refine rn_iload_n (q := 1) 1 rfl zd_X6_insert_0.2.2.2.1 ?_
  rcases zif_e h with ⟨hc6, h⟩ | ⟨hc6, h⟩
  · refine rn_icmp_le_t (tgt := 44) hc6 zd_X6_insert_0.2.2.2.2 rfl ?_
    cases h
    exact rn_sub (ls' := [(0, .ref a0), (1, .int x1), (2, .int x2)]) [0, 1, 2] rfl hk
  · refine rn_icmp_le_f (tgt := 44) hc6 zd_X6_insert_0.2.2.2.2 rfl ?_
    refine rn_aload_n (q := 0) 0 rfl zd_X6_insert_1.1.1.1.1 ?_
    refine rn_iload_n (q := 3) 3 rfl zd_X6_insert_1.1.1.1.2 ?_
    refine rn_iconst (v := 1) zd_X6_insert_1.1.1.2.1 rfl ?_
    refine rn_isub zd_X6_insert_1.1.1.2.2 ?_
    refine rn_iload_n (q := 3) 3 rfl zd_X6_insert_1.1.2.1.1 ?_
    obtain ⟨M7, L8, h9, h⟩ := zbd2_e h
    refine rn_callVv (As := [.int (x3 - (1 : Int32)), .int x3]) (rest := []) zl_X6_72 zm_X6_copyHouse ⟨by decide, by decide⟩ (ci := 6) rfl rfl (by decide) k_a0 rfl rfl (Nat.le_of_ble_eq_true rfl) zd_X6_insert_1.1.2.1.2 (ok_X6_copyHouse hW k_a0 h9) ?_
    refine rn_iinc (v := (x3 + (-1))) (ls' := [(3, .int (x3 + (-1))), (0, .ref a0), (1, .int x1), (2, .int x2)]) 3 rfl (congrArg (fun z => x3 + z) (show Int32.ofInt (-1) = -1 by decide)) (by decide) rfl zd_X6_insert_1.1.2.2.1 ?_
    refine rn_goto (tgt := 25) zd_X6_insert_1.1.2.2.2 rfl ?_
    cases h
    exact rn_sub (ls' := [(0, .ref a0), (1, .int x1), (2, .int x2), (3, .int (x3 + (-1)))]) [1, 2, 3, 0] rfl hk
def n_X6_insert (R : zR) (M : zM) (L : zL) (a0 : Nat) (x1 : Int32) (x2 : Int32) : Option (zM × zL) :=
  if x1 < 0 then (
    some (M, L)
  ) else (
    if (M a0 4) < x1 then (
      some (M, L)
    ) else (
      zbd (f_X6_isFull M a0) fun r3 =>
      if r3 = 0 then (
        zbd (zloop zN (fun v => nb_X6_insert_25 R v.2.1 v.2.2 a0 x1 x2 v.1) ((M a0 4), M, L)) fun e10 =>
        zlt (zup e10.1 a0 4 ((e10.1 a0 4) + (1 : Int32))) fun M11 =>
        zck (zin x1 10) <|
        zlt (zup M11 (R a0 0) (ztn x1) x2) fun M13 =>
        zck (zin x1 10) <|
        zlt (zup M13 (R a0 1) (ztn x1) (0 : Int32)) fun M15 =>
        zck (zin x1 10) <|
        zlt (zup M15 (R a0 2) (ztn x1) (0 : Int32)) fun M17 =>
        zck (zin x1 10) <|
        zlt (zupL e10.2 (R a0 3) (ztn x1) (0 : Int64)) fun L19 =>
        some (M17, L19)
      ) else (
        some (M, L)
      )
    )
  )
set_option maxRecDepth 4000 in
theorem ok_X6_insert {G : zG} {K : zK} {R : zR} {M : zM} {L : zL} (hW : zWT R K) {a0 : Nat} {x1 : Int32} {x2 : Int32} (k_a0 : K[a0]? = some (6, 8)) {M' : zM} {L' : zL} (h : n_X6_insert R M L a0 x1 x2 = some (M', L')) : Rm G mt_X6_insert [.ref a0, .int x1, .int x2] (M, L, R, K) none (M', L', R, K) := by
  refine rm_rn rfl rfl (Nat.le_of_ble_eq_true rfl) ?_
  show Rn G mt_X6_insert 0 [(0, .ref a0), (1, .int x1), (2, .int x2)] [] (M, L, R, K) none (M', L', R, K)
  unfold n_X6_insert at h
  refine rn_iload_n (q := 1) 1 rfl zd_X6_insert_0.1.1.1.1 ?_
  rcases zif_e h with ⟨hc1, h⟩ | ⟨hc1, h⟩
  · refine rn_if_lt_t (tgt := 19) hc1 zd_X6_insert_0.1.1.1.2 rfl ?_
    cases h
    exact rn_vret zd_X6_insert_0.2.1.1.2 rfl
  · refine rn_if_lt_f (tgt := 19) hc1 zd_X6_insert_0.1.1.1.2 rfl ?_
    refine rn_iload_n (q := 1) 1 rfl zd_X6_insert_0.1.1.2.1 ?_
    refine rn_aload_n (q := 0) 0 rfl zd_X6_insert_0.1.1.2.2 ?_
    refine rn_getI zf_X6_25 (Or.inl rfl) k_a0 zd_X6_insert_0.1.2.1.1 ?_
    rcases zif_e h with ⟨hc2, h⟩ | ⟨hc2, h⟩
    · refine rn_icmp_gt_t (tgt := 19) hc2 zd_X6_insert_0.1.2.1.2 rfl ?_
      cases h
      exact rn_vret zd_X6_insert_0.2.1.1.2 rfl
    · refine rn_icmp_gt_f (tgt := 19) hc2 zd_X6_insert_0.1.2.1.2 rfl ?_
      refine rn_aload_n (q := 0) 0 rfl zd_X6_insert_0.1.2.2.1 ?_
      obtain ⟨r3, h4, h⟩ := zbd_e h
      refine rn_callVi (As := []) (rest := []) zl_X6_68 zm_X6_isFull ⟨by decide, by decide⟩ (ci := 6) rfl rfl (by decide) k_a0 rfl rfl (Nat.le_of_ble_eq_true rfl) zd_X6_insert_0.1.2.2.2 (ok_X6_isFull hW k_a0 h4) ?_
      rcases zif_e h with ⟨hc5, h⟩ | ⟨hc5, h⟩
      · refine rn_if_eq_t (tgt := 20) hc5 zd_X6_insert_0.2.1.1.1 rfl ?_
        refine rn_aload_n (q := 0) 0 rfl zd_X6_insert_0.2.1.2.1 ?_
        refine rn_getI zf_X6_25 (Or.inl rfl) k_a0 zd_X6_insert_0.2.1.2.2 ?_
        refine rn_istore_n (q := 3) (ls' := [(3, .int (M a0 4)), (0, .ref a0), (1, .int x1), (2, .int x2)]) (by decide) rfl zd_X6_insert_0.2.2.1.1 ?_
        obtain ⟨e10, he10, h⟩ := zbd_e h
        refine rn_sub (ls' := [(0, .ref a0), (1, .int x1), (2, .int x2), (3, .int (M a0 4))]) [1, 2, 3, 0] rfl (zloop_ok (P := P_X6_insert_25 G K R a0 x1 x2 none (M', L', R, K)) (Q := Q_X6_insert_25 G K R a0 x1 x2 none (M', L', R, K)) (fun v x hx hq => ok_b_X6_insert_25 hW k_a0 hx hq) _ _ _ he10 ?_)
        show Rn G mt_X6_insert 44 [(0, .ref a0), (1, .int x1), (2, .int x2)] [] (e10.1, e10.2, R, K) none (M', L', R, K)
        refine rn_aload_n (q := 0) 0 rfl zd_X6_insert_1.2.1.1.1 ?_
        refine rn_dup zd_X6_insert_1.2.1.1.2 rfl ?_
        refine rn_getI zf_X6_25 (Or.inl rfl) k_a0 zd_X6_insert_1.2.1.2.1 ?_
        refine rn_iconst (v := 1) zd_X6_insert_1.2.1.2.2 rfl ?_
        refine rn_iadd zd_X6_insert_1.2.2.1.1 ?_
        obtain ⟨M11, hM11, h⟩ := zlt_e h
        refine rn_putI hM11 zf_X6_25 k_a0 zd_X6_insert_1.2.2.1.2 ?_
        refine rn_aload_n (q := 0) 0 rfl zd_X6_insert_1.2.2.2.1 ?_
        refine rn_getR zf_X6_9 (Or.inr ⟨_, rfl⟩) k_a0 (zx_6_0 hW k_a0) zd_X6_insert_1.2.2.2.2 ?_
        refine rn_iload_n (q := 1) 1 rfl zd_X6_insert_2.1.1.1.1 ?_
        refine rn_iload_n (q := 2) 2 rfl zd_X6_insert_2.1.1.1.2 ?_
        obtain ⟨hc12, h⟩ := zck_e h
        obtain ⟨M13, hM13, h⟩ := zlt_e h
        refine rn_iast hM13 (zw_6_0 hW k_a0) hc12 zd_X6_insert_2.1.1.2.1 ?_
        refine rn_aload_n (q := 0) 0 rfl zd_X6_insert_2.1.1.2.2 ?_
        refine rn_getR zf_X6_15 (Or.inr ⟨_, rfl⟩) k_a0 (zx_6_1 hW k_a0) zd_X6_insert_2.1.2.1.1 ?_
        refine rn_iload_n (q := 1) 1 rfl zd_X6_insert_2.1.2.1.2 ?_
        refine rn_iconst (v := 0) zd_X6_insert_2.1.2.2.1 rfl ?_
        obtain ⟨hc14, h⟩ := zck_e h
        obtain ⟨M15, hM15, h⟩ := zlt_e h
        refine rn_iast hM15 (zw_6_1 hW k_a0) hc14 zd_X6_insert_2.1.2.2.2 ?_
        refine rn_aload_n (q := 0) 0 rfl zd_X6_insert_2.2.1.1.1 ?_
        refine rn_getR zf_X6_18 (Or.inr ⟨_, rfl⟩) k_a0 (zx_6_2 hW k_a0) zd_X6_insert_2.2.1.1.2 ?_
        refine rn_iload_n (q := 1) 1 rfl zd_X6_insert_2.2.1.2.1 ?_
        refine rn_iconst (v := 0) zd_X6_insert_2.2.1.2.2 rfl ?_
        obtain ⟨hc16, h⟩ := zck_e h
        obtain ⟨M17, hM17, h⟩ := zlt_e h
        refine rn_iast hM17 (zw_6_2 hW k_a0) hc16 zd_X6_insert_2.2.2.1.1 ?_
        refine rn_aload_n (q := 0) 0 rfl zd_X6_insert_2.2.2.1.2 ?_
        refine rn_getR zf_X6_21 (Or.inr ⟨_, rfl⟩) k_a0 (zx_6_3 hW k_a0) zd_X6_insert_2.2.2.2.1 ?_
        refine rn_iload_n (q := 1) 1 rfl zd_X6_insert_2.2.2.2.2 ?_
        refine rn_lconst (v := 0) zd_X6_insert_3.1 rfl ?_
        obtain ⟨hc18, h⟩ := zck_e h
        obtain ⟨L19, hL19, h⟩ := zlt_e h
        refine rn_last hL19 (zw_6_3 hW k_a0) hc18 zd_X6_insert_3.2.1 ?_
        cases h
        exact rn_vret zd_X6_insert_3.2.2 rfl
      · refine rn_if_eq_f (tgt := 20) hc5 zd_X6_insert_0.2.1.1.1 rfl ?_
        cases h
        exact rn_vret zd_X6_insert_0.2.1.1.2 rfl
abbrev P_X6_spread_26 (G : zG) (K : zK) (R : zR) (M : zM) (L : zL) (a0 : Nat) (r : Option Value) (S' : zS) (v : Int32 × Int32 × Int32) : Prop := Rn G mt_X6_spread 26 [(0, .ref a0), (1, .int v.1), (2, .int v.2.1), (3, .int v.2.2)] [] (M, L, R, K) r S'
abbrev Q_X6_spread_26 (G : zG) (K : zK) (R : zR) (M : zM) (L : zL) (a0 : Nat) (r : Option Value) (S' : zS) : (Int32 × Int32) → Prop := (fun e => Rn G mt_X6_spread 68 [(1, .int e.1), (2, .int e.2)] [] (M, L, R, K) r S')
def b_X6_spread_26 (R : zR) (M : zM) (a0 : Nat) (x1 : Int32) (x2 : Int32) (x3 : Int32) : Option ((Int32 × Int32 × Int32) ⊕ ((Int32 × Int32))) :=
  if (10 : Int32) ≤ x3 then (
    some (.inr (x1, x2))
  ) else (
    zbd (f_X6_has M a0 x3) fun r5 =>
    if r5 = 0 then (
      some (.inr (x1, x2))
    ) else (
      zck (zin x3 10) <|
      zck (zin x3 10) <|
      some (.inl ((if (M (R a0 0) (ztn x3)) < x1 then (M (R a0 0) (ztn x3)) else x1), (if x2 < (M (R a0 0) (ztn x3)) then (M (R a0 0) (ztn x3)) else x2), (x3 + 1)))
    )
  )
set_option maxRecDepth 4000 in
theorem ok_b_X6_spread_26 {G : zG} {K : zK} {R : zR} {M : zM} {L : zL} (hW : zWT R K) {a0 : Nat} {x1 : Int32} {x2 : Int32} {x3 : Int32} (k_a0 : K[a0]? = some (6, 8)) {r : Option Value} {S' : zS} {x : (Int32 × Int32 × Int32) ⊕ ((Int32 × Int32))} (h : b_X6_spread_26 R M a0 x1 x2 x3 = some x) (hk : Sum.elim (P_X6_spread_26 G K R M L a0 r S') (Q_X6_spread_26 G K R M L a0 r S') x) : P_X6_spread_26 G K R M L a0 r S' (x1, x2, x3) := by
  show Rn G mt_X6_spread 26 [(0, .ref a0), (1, .int x1), (2, .int x2), (3, .int x3)] [] (M, L, R, K) r S'
  unfold b_X6_spread_26 at h
  refine rn_iload_n (q := 3) 3 rfl zd_X6_spread_1.1.1.2.1 ?_
  refine rn_bipush (v := 10) zd_X6_spread_1.1.1.2.2 rfl ?_
  rcases zif_e h with ⟨hc4, h⟩ | ⟨hc4, h⟩
  · refine rn_icmp_ge_t (tgt := 68) hc4 zd_X6_spread_1.1.2.1.1 rfl ?_
    cases h
    exact rn_sub (ls' := [(1, .int x1), (2, .int x2)]) [1, 2] rfl hk
  · refine rn_icmp_ge_f (tgt := 68) hc4 zd_X6_spread_1.1.2.1.1 rfl ?_
    refine rn_aload_n (q := 0) 0 rfl zd_X6_spread_1.1.2.1.2 ?_
    refine rn_iload_n (q := 3) 3 rfl zd_X6_spread_1.1.2.2.1 ?_
    obtain ⟨r5, h6, h⟩ := zbd_e h
    refine rn_callVi (As := [.int x3]) (rest := []) zl_X6_48 zm_X6_has ⟨by decide, by decide⟩ (ci := 6) rfl rfl (by decide) k_a0 rfl rfl (Nat.le_of_ble_eq_true rfl) zd_X6_spread_1.1.2.2.2 (ok_X6_has hW k_a0 h6) ?_
    rcases zif_e h with ⟨hc7, h⟩ | ⟨hc7, h⟩
    · refine rn_if_eq_t (tgt := 68) hc7 zd_X6_spread_1.2.1.1.1 rfl ?_
      cases h
      exact rn_sub (ls' := [(1, .int x1), (2, .int x2)]) [1, 2] rfl hk
    · refine rn_if_eq_f (tgt := 68) hc7 zd_X6_spread_1.2.1.1.1 rfl ?_
      refine rn_iload_n (q := 1) 1 rfl zd_X6_spread_1.2.1.1.2 ?_
      refine rn_aload_n (q := 0) 0 rfl zd_X6_spread_1.2.1.2.1 ?_
      refine rn_getR zf_X6_9 (Or.inr ⟨_, rfl⟩) k_a0 (zx_6_0 hW k_a0) zd_X6_spread_1.2.1.2.2 ?_
      refine rn_iload_n (q := 3) 3 rfl zd_X6_spread_1.2.2.1.1 ?_
      obtain ⟨hc8, h⟩ := zck_e h
      refine rn_iald (zw_6_0 hW k_a0) hc8 zd_X6_spread_1.2.2.1.2 ?_
      refine rn_min zb_X6_52 zms_min zmi zmc_min ⟨by decide, by decide⟩ (Nat.le_of_ble_eq_true rfl) zd_X6_spread_1.2.2.2.1 ?_
      refine rn_istore_n (q := 1) (ls' := [(1, .int (if (M (R a0 0) (ztn x3)) < x1 then (M (R a0 0) (ztn x3)) else x1)), (0, .ref a0), (2, .int x2), (3, .int x3)]) (by decide) rfl zd_X6_spread_1.2.2.2.2 ?_
      refine rn_iload_n (q := 2) 2 rfl zd_X6_spread_2.1.1.1 ?_
      refine rn_aload_n (q := 0) 1 rfl zd_X6_spread_2.1.1.2.1 ?_
      refine rn_getR zf_X6_9 (Or.inr ⟨_, rfl⟩) k_a0 (zx_6_0 hW k_a0) zd_X6_spread_2.1.1.2.2 ?_
      refine rn_iload_n (q := 3) 3 rfl zd_X6_spread_2.1.2.1 ?_
      obtain ⟨hc9, h⟩ := zck_e h
      refine rn_iald (zw_6_0 hW k_a0) hc9 zd_X6_spread_2.1.2.2.1 ?_
      refine rn_max zb_X6_58 zms_max zmi zmc_max ⟨by decide, by decide⟩ (Nat.le_of_ble_eq_true rfl) zd_X6_spread_2.1.2.2.2 ?_
      refine rn_istore_n (q := 2) (ls' := [(2, .int (if x2 < (M (R a0 0) (ztn x3)) then (M (R a0 0) (ztn x3)) else x2)), (1, .int (if (M (R a0 0) (ztn x3)) < x1 then (M (R a0 0) (ztn x3)) else x1)), (0, .ref a0), (3, .int x3)]) (by decide) rfl zd_X6_spread_2.2.1.1 ?_
      refine rn_iinc (v := (x3 + 1)) (ls' := [(3, .int (x3 + 1)), (2, .int (if x2 < (M (R a0 0) (ztn x3)) then (M (R a0 0) (ztn x3)) else x2)), (1, .int (if (M (R a0 0) (ztn x3)) < x1 then (M (R a0 0) (ztn x3)) else x1)), (0, .ref a0)]) 3 rfl rfl (by decide) rfl zd_X6_spread_2.2.1.2.1 ?_
      refine rn_goto (tgt := 26) zd_X6_spread_2.2.1.2.2 rfl ?_
      cases h
      exact rn_sub (ls' := [(0, .ref a0), (1, .int (if (M (R a0 0) (ztn x3)) < x1 then (M (R a0 0) (ztn x3)) else x1)), (2, .int (if x2 < (M (R a0 0) (ztn x3)) then (M (R a0 0) (ztn x3)) else x2)), (3, .int (x3 + 1))]) [3, 2, 1, 0] rfl hk
def f_X6_spread (R : zR) (M : zM) (a0 : Nat) : Option (Int32) :=
  zbd (f_X6_has M a0 (0 : Int32)) fun r1 =>
  if r1 = 0 then (
    some (0 : Int32)
  ) else (
    zbd (zloop zN (fun v => b_X6_spread_26 R M a0 v.1 v.2.1 v.2.2) ((M (R a0 0) (ztn (0 : Int32))), (M (R a0 0) (ztn (0 : Int32))), (1 : Int32))) fun e10 =>
    some (e10.2 - e10.1)
  )
set_option maxRecDepth 4000 in
theorem ok_X6_spread {G : zG} {K : zK} {R : zR} {M : zM} {L : zL} (hW : zWT R K) {a0 : Nat} (k_a0 : K[a0]? = some (6, 8)) {r' : Int32} (h : f_X6_spread R M a0 = some r') : Rm G mt_X6_spread [.ref a0] (M, L, R, K) (some (.int r')) (M, L, R, K) := by
  refine rm_rn rfl rfl (Nat.le_of_ble_eq_true rfl) ?_
  show Rn G mt_X6_spread 0 [(0, .ref a0)] [] (M, L, R, K) (some (.int r')) (M, L, R, K)
  unfold f_X6_spread at h
  refine rn_aload_n (q := 0) 0 rfl zd_X6_spread_0.1.1.1.1 ?_
  refine rn_iconst (v := 0) zd_X6_spread_0.1.1.1.2 rfl ?_
  obtain ⟨r1, h2, h⟩ := zbd_e h
  refine rn_callVi (As := [.int (0 : Int32)]) (rest := []) zl_X6_48 zm_X6_has ⟨by decide, by decide⟩ (ci := 6) rfl rfl (by decide) k_a0 rfl rfl (Nat.le_of_ble_eq_true rfl) zd_X6_spread_0.1.1.2.1 (ok_X6_has hW k_a0 h2) ?_
  rcases zif_e h with ⟨hc3, h⟩ | ⟨hc3, h⟩
  · refine rn_if_ne_f (tgt := 10) hc3 zd_X6_spread_0.1.1.2.2 rfl ?_
    refine rn_iconst (v := 0) zd_X6_spread_0.1.2.1.1 rfl ?_
    cases h
    exact rn_iret zd_X6_spread_0.1.2.1.2 rfl
  · refine rn_if_ne_t (tgt := 10) hc3 zd_X6_spread_0.1.1.2.2 rfl ?_
    refine rn_aload_n (q := 0) 0 rfl zd_X6_spread_0.1.2.2.1 ?_
    refine rn_getR zf_X6_9 (Or.inr ⟨_, rfl⟩) k_a0 (zx_6_0 hW k_a0) zd_X6_spread_0.1.2.2.2 ?_
    refine rn_iconst (v := 0) zd_X6_spread_0.2.1.1.1 rfl ?_
    refine rn_iald (zw_6_0 hW k_a0) (by decide) zd_X6_spread_0.2.1.1.2 ?_
    refine rn_istore_n (q := 1) (ls' := [(1, .int (M (R a0 0) (ztn (0 : Int32)))), (0, .ref a0)]) (by decide) rfl zd_X6_spread_0.2.1.2.1 ?_
    refine rn_aload_n (q := 0) 1 rfl zd_X6_spread_0.2.1.2.2 ?_
    refine rn_getR zf_X6_9 (Or.inr ⟨_, rfl⟩) k_a0 (zx_6_0 hW k_a0) zd_X6_spread_0.2.2.1.1 ?_
    refine rn_iconst (v := 0) zd_X6_spread_0.2.2.1.2 rfl ?_
    refine rn_iald (zw_6_0 hW k_a0) (by decide) zd_X6_spread_0.2.2.2.1 ?_
    refine rn_istore_n (q := 2) (ls' := [(2, .int (M (R a0 0) (ztn (0 : Int32)))), (1, .int (M (R a0 0) (ztn (0 : Int32)))), (0, .ref a0)]) (by decide) rfl zd_X6_spread_0.2.2.2.2 ?_
    refine rn_iconst (v := 1) zd_X6_spread_1.1.1.1.1 rfl ?_
    refine rn_istore_n (q := 3) (ls' := [(3, .int (1 : Int32)), (2, .int (M (R a0 0) (ztn (0 : Int32)))), (1, .int (M (R a0 0) (ztn (0 : Int32)))), (0, .ref a0)]) (by decide) rfl zd_X6_spread_1.1.1.1.2 ?_
    obtain ⟨e10, he10, h⟩ := zbd_e h
    refine rn_sub (ls' := [(0, .ref a0), (1, .int (M (R a0 0) (ztn (0 : Int32)))), (2, .int (M (R a0 0) (ztn (0 : Int32)))), (3, .int (1 : Int32))]) [3, 2, 1, 0] rfl (zloop_ok (P := P_X6_spread_26 G K R M L a0 (some (.int r')) (M, L, R, K)) (Q := Q_X6_spread_26 G K R M L a0 (some (.int r')) (M, L, R, K)) (fun v x hx hq => ok_b_X6_spread_26 hW k_a0 hx hq) _ _ _ he10 ?_)
    show Rn G mt_X6_spread 68 [(1, .int e10.1), (2, .int e10.2)] [] (M, L, R, K) (some (.int r')) (M, L, R, K)
    refine rn_iload_n (q := 2) 1 rfl zd_X6_spread_2.2.2.1.1 ?_
    refine rn_iload_n (q := 1) 0 rfl zd_X6_spread_2.2.2.1.2 ?_
    refine rn_isub zd_X6_spread_2.2.2.2.1 ?_
    cases h
    exact rn_iret zd_X6_spread_2.2.2.2.2 rfl
def f_X3_clear (M : zM) (a0 : Nat) : Option (zM) :=
  zlt (zup M a0 3 (0 : Int32)) fun M1 =>
  zlt (zup M1 a0 4 (0 : Int32)) fun M2 =>
  some M2
set_option maxRecDepth 4000 in
theorem ok_X3_clear {G : zG} {K : zK} {R : zR} {M : zM} {L : zL} (hW : zWT R K) {a0 : Nat} (k_a0 : K[a0]? = some (3, 5)) {M' : zM} (h : f_X3_clear M a0 = some M') : Rm G mt_X3_clear [.ref a0] (M, L, R, K) none (M', L, R, K) := by
  refine rm_rn rfl rfl (Nat.le_of_ble_eq_true rfl) ?_
  show Rn G mt_X3_clear 0 [(0, .ref a0)] [] (M, L, R, K) none (M', L, R, K)
  unfold f_X3_clear at h
  refine rn_aload_n (q := 0) 0 rfl zd_X3_clear_0.1.1 ?_
  refine rn_iconst (v := 0) zd_X3_clear_0.1.2.1 rfl ?_
  obtain ⟨M1, hM1, h⟩ := zlt_e h
  refine rn_putI hM1 zf_X3_21 k_a0 zd_X3_clear_0.1.2.2 ?_
  refine rn_aload_n (q := 0) 0 rfl zd_X3_clear_0.2.1.1 ?_
  refine rn_iconst (v := 0) zd_X3_clear_0.2.1.2 rfl ?_
  obtain ⟨M2, hM2, h⟩ := zlt_e h
  refine rn_putB (Or.inl rfl) hM2 zf_X3_25 k_a0 zd_X3_clear_0.2.2.1 ?_
  cases h
  exact rn_vret zd_X3_clear_0.2.2.2 rfl
def f_X3_add (R : zR) (M : zM) (a0 : Nat) (x1 : Int32) (x2 : Int32) : Option (zM) :=
  if (M a0 3) < 0 then (
    some M
  ) else (
    if (M a0 3) < (400 : Int32) then (
      zck (zin (M a0 3) 400) <|
      zlt (zup M (R a0 0) (ztn (M a0 3)) x1) fun M4 =>
      zck (zin (M4 a0 3) 400) <|
      zlt (zup M4 (R a0 1) (ztn (M4 a0 3)) x2) fun M6 =>
      zlt (zup M6 a0 3 ((M6 a0 3) + (1 : Int32))) fun M7 =>
      if x1 = (2 : Int32) then (
        if x2 = (5 : Int32) then (
          zlt (zup M7 a0 4 (1 : Int32)) fun M10 =>
          some M10
        ) else (
          some M7
        )
      ) else (
        some M7
      )
    ) else (
      some M
    )
  )
set_option maxRecDepth 4000 in
theorem ok_X3_add {G : zG} {K : zK} {R : zR} {M : zM} {L : zL} (hW : zWT R K) {a0 : Nat} {x1 : Int32} {x2 : Int32} (k_a0 : K[a0]? = some (3, 5)) {M' : zM} (h : f_X3_add R M a0 x1 x2 = some M') : Rm G mt_X3_add [.ref a0, .int x1, .int x2] (M, L, R, K) none (M', L, R, K) := by
  refine rm_rn rfl rfl (Nat.le_of_ble_eq_true rfl) ?_
  show Rn G mt_X3_add 0 [(0, .ref a0), (1, .int x1), (2, .int x2)] [] (M, L, R, K) none (M', L, R, K)
  unfold f_X3_add at h
  refine rn_aload_n (q := 0) 0 rfl zd_X3_add_0.1.1.1.1 ?_
  refine rn_getI zf_X3_21 (Or.inl rfl) k_a0 zd_X3_add_0.1.1.1.2 ?_
  rcases zif_e h with ⟨hc1, h⟩ | ⟨hc1, h⟩
  · refine rn_if_lt_t (tgt := 19) hc1 zd_X3_add_0.1.1.2.1 rfl ?_
    cases h
    exact rn_vret zd_X3_add_0.2.1.1.2 rfl
  · refine rn_if_lt_f (tgt := 19) hc1 zd_X3_add_0.1.1.2.1 rfl ?_
    refine rn_aload_n (q := 0) 0 rfl zd_X3_add_0.1.1.2.2 ?_
    refine rn_getI zf_X3_21 (Or.inl rfl) k_a0 zd_X3_add_0.1.2.1.1 ?_
    refine rn_aload_n (q := 0) 0 rfl zd_X3_add_0.1.2.1.2 ?_
    refine rn_getR zf_X3_9 (Or.inr ⟨_, rfl⟩) k_a0 (zx_3_0 hW k_a0) zd_X3_add_0.1.2.2.1 ?_
    refine rn_alen (v := 400) (zw_3_0 hW k_a0) (Or.inl rfl) rfl zd_X3_add_0.1.2.2.2 ?_
    rcases zif_e h with ⟨hc2, h⟩ | ⟨hc2, h⟩
    · refine rn_icmp_lt_t (tgt := 20) hc2 zd_X3_add_0.2.1.1.1 rfl ?_
      refine rn_aload_n (q := 0) 0 rfl zd_X3_add_0.2.1.2.1 ?_
      refine rn_getR zf_X3_9 (Or.inr ⟨_, rfl⟩) k_a0 (zx_3_0 hW k_a0) zd_X3_add_0.2.1.2.2 ?_
      refine rn_aload_n (q := 0) 0 rfl zd_X3_add_0.2.2.1.1 ?_
      refine rn_getI zf_X3_21 (Or.inl rfl) k_a0 zd_X3_add_0.2.2.1.2 ?_
      refine rn_iload_n (q := 1) 1 rfl zd_X3_add_0.2.2.2.1 ?_
      obtain ⟨hc3, h⟩ := zck_e h
      obtain ⟨M4, hM4, h⟩ := zlt_e h
      refine rn_iast hM4 (zw_3_0 hW k_a0) hc3 zd_X3_add_0.2.2.2.2 ?_
      refine rn_aload_n (q := 0) 0 rfl zd_X3_add_1.1.1.1.1 ?_
      refine rn_getR zf_X3_15 (Or.inr ⟨_, rfl⟩) k_a0 (zx_3_1 hW k_a0) zd_X3_add_1.1.1.1.2 ?_
      refine rn_aload_n (q := 0) 0 rfl zd_X3_add_1.1.1.2.1 ?_
      refine rn_getI zf_X3_21 (Or.inl rfl) k_a0 zd_X3_add_1.1.1.2.2 ?_
      refine rn_iload_n (q := 2) 2 rfl zd_X3_add_1.1.2.1.1 ?_
      obtain ⟨hc5, h⟩ := zck_e h
      obtain ⟨M6, hM6, h⟩ := zlt_e h
      refine rn_iast hM6 (zw_3_1 hW k_a0) hc5 zd_X3_add_1.1.2.1.2 ?_
      refine rn_aload_n (q := 0) 0 rfl zd_X3_add_1.1.2.2.1 ?_
      refine rn_dup zd_X3_add_1.1.2.2.2 rfl ?_
      refine rn_getI zf_X3_21 (Or.inl rfl) k_a0 zd_X3_add_1.2.1.1.1 ?_
      refine rn_iconst (v := 1) zd_X3_add_1.2.1.1.2 rfl ?_
      refine rn_iadd zd_X3_add_1.2.1.2.1 ?_
      obtain ⟨M7, hM7, h⟩ := zlt_e h
      refine rn_putI hM7 zf_X3_21 k_a0 zd_X3_add_1.2.1.2.2 ?_
      refine rn_iload_n (q := 1) 1 rfl zd_X3_add_1.2.2.1.1 ?_
      refine rn_iconst (v := 2) zd_X3_add_1.2.2.1.2 rfl ?_
      rcases zif_e h with ⟨hc8, h⟩ | ⟨hc8, h⟩
      · refine rn_icmp_ne_f (tgt := 65) hc8 zd_X3_add_1.2.2.2.1 rfl ?_
        refine rn_iload_n (q := 2) 2 rfl zd_X3_add_1.2.2.2.2 ?_
        refine rn_iconst (v := 5) zd_X3_add_2.1.1 rfl ?_
        rcases zif_e h with ⟨hc9, h⟩ | ⟨hc9, h⟩
        · refine rn_icmp_ne_f (tgt := 65) hc9 zd_X3_add_2.1.2.1 rfl ?_
          refine rn_aload_n (q := 0) 0 rfl zd_X3_add_2.1.2.2 ?_
          refine rn_iconst (v := 1) zd_X3_add_2.2.1 rfl ?_
          obtain ⟨M10, hM10, h⟩ := zlt_e h
          refine rn_putB (Or.inr rfl) hM10 zf_X3_25 k_a0 zd_X3_add_2.2.2.1 ?_
          cases h
          exact rn_vret zd_X3_add_2.2.2.2 rfl
        · refine rn_icmp_ne_t (tgt := 65) hc9 zd_X3_add_2.1.2.1 rfl ?_
          cases h
          exact rn_vret zd_X3_add_2.2.2.2 rfl
      · refine rn_icmp_ne_t (tgt := 65) hc8 zd_X3_add_1.2.2.2.1 rfl ?_
        cases h
        exact rn_vret zd_X3_add_2.2.2.2 rfl
    · refine rn_icmp_lt_f (tgt := 20) hc2 zd_X3_add_0.2.1.1.1 rfl ?_
      cases h
      exact rn_vret zd_X3_add_0.2.1.1.2 rfl
def f_X3_beSeen (R : zR) (M : zM) (a0 : Nat) (x1 : Int32) : Option (zM) :=
  zbd (f_X3_clear M a0) fun M1 =>
  zbd (f_X3_add R M1 a0 (2 : Int32) x1) fun M3 =>
  zbd (f_X3_add R M3 a0 (4 : Int32) (0 : Int32)) fun M5 =>
  some M5
set_option maxRecDepth 4000 in
theorem ok_X3_beSeen {G : zG} {K : zK} {R : zR} {M : zM} {L : zL} (hW : zWT R K) {a0 : Nat} {x1 : Int32} (k_a0 : K[a0]? = some (3, 5)) {M' : zM} (h : f_X3_beSeen R M a0 x1 = some M') : Rm G mt_X3_beSeen [.ref a0, .int x1] (M, L, R, K) none (M', L, R, K) := by
  refine rm_rn rfl rfl (Nat.le_of_ble_eq_true rfl) ?_
  show Rn G mt_X3_beSeen 0 [(0, .ref a0), (1, .int x1)] [] (M, L, R, K) none (M', L, R, K)
  unfold f_X3_beSeen at h
  refine rn_aload_n (q := 0) 0 rfl zd_X3_beSeen_0.1.1.1 ?_
  obtain ⟨M1, h2, h⟩ := zbd_e h
  refine rn_callVv (As := []) (rest := []) zl_X3_29 zm_X3_clear ⟨by decide, by decide⟩ (ci := 3) rfl rfl (by decide) k_a0 rfl rfl (Nat.le_of_ble_eq_true rfl) zd_X3_beSeen_0.1.1.2 (ok_X3_clear hW k_a0 h2) ?_
  refine rn_aload_n (q := 0) 0 rfl zd_X3_beSeen_0.1.2.1 ?_
  refine rn_iconst (v := 2) zd_X3_beSeen_0.1.2.2.1 rfl ?_
  refine rn_iload_n (q := 1) 1 rfl zd_X3_beSeen_0.1.2.2.2 ?_
  obtain ⟨M3, h4, h⟩ := zbd_e h
  refine rn_callVv (As := [.int (2 : Int32), .int x1]) (rest := []) zl_X3_32 zm_X3_add ⟨by decide, by decide⟩ (ci := 3) rfl rfl (by decide) k_a0 rfl rfl (Nat.le_of_ble_eq_true rfl) zd_X3_beSeen_0.2.1.1 (ok_X3_add hW k_a0 h4) ?_
  refine rn_aload_n (q := 0) 0 rfl zd_X3_beSeen_0.2.1.2.1 ?_
  refine rn_iconst (v := 4) zd_X3_beSeen_0.2.1.2.2 rfl ?_
  refine rn_iconst (v := 0) zd_X3_beSeen_0.2.2.1 rfl ?_
  obtain ⟨M5, h6, h⟩ := zbd_e h
  refine rn_callVv (As := [.int (4 : Int32), .int (0 : Int32)]) (rest := []) zl_X3_32 zm_X3_add ⟨by decide, by decide⟩ (ci := 3) rfl rfl (by decide) k_a0 rfl rfl (Nat.le_of_ble_eq_true rfl) zd_X3_beSeen_0.2.2.2.1 (ok_X3_add hW k_a0 h6) ?_
  cases h
  exact rn_vret zd_X3_beSeen_0.2.2.2.2 rfl
def f_X3_beNumber (R : zR) (M : zM) (a0 : Nat) (x1 : Int32) : Option (zM) :=
  zbd (f_X3_clear M a0) fun M1 =>
  zbd (f_X3_add R M1 a0 (1 : Int32) x1) fun M3 =>
  zbd (f_X3_add R M3 a0 (4 : Int32) (0 : Int32)) fun M5 =>
  some M5
set_option maxRecDepth 4000 in
theorem ok_X3_beNumber {G : zG} {K : zK} {R : zR} {M : zM} {L : zL} (hW : zWT R K) {a0 : Nat} {x1 : Int32} (k_a0 : K[a0]? = some (3, 5)) {M' : zM} (h : f_X3_beNumber R M a0 x1 = some M') : Rm G mt_X3_beNumber [.ref a0, .int x1] (M, L, R, K) none (M', L, R, K) := by
  refine rm_rn rfl rfl (Nat.le_of_ble_eq_true rfl) ?_
  show Rn G mt_X3_beNumber 0 [(0, .ref a0), (1, .int x1)] [] (M, L, R, K) none (M', L, R, K)
  unfold f_X3_beNumber at h
  refine rn_aload_n (q := 0) 0 rfl zd_X3_beNumber_0.1.1.1 ?_
  obtain ⟨M1, h2, h⟩ := zbd_e h
  refine rn_callVv (As := []) (rest := []) zl_X3_29 zm_X3_clear ⟨by decide, by decide⟩ (ci := 3) rfl rfl (by decide) k_a0 rfl rfl (Nat.le_of_ble_eq_true rfl) zd_X3_beNumber_0.1.1.2 (ok_X3_clear hW k_a0 h2) ?_
  refine rn_aload_n (q := 0) 0 rfl zd_X3_beNumber_0.1.2.1 ?_
  refine rn_iconst (v := 1) zd_X3_beNumber_0.1.2.2.1 rfl ?_
  refine rn_iload_n (q := 1) 1 rfl zd_X3_beNumber_0.1.2.2.2 ?_
  obtain ⟨M3, h4, h⟩ := zbd_e h
  refine rn_callVv (As := [.int (1 : Int32), .int x1]) (rest := []) zl_X3_32 zm_X3_add ⟨by decide, by decide⟩ (ci := 3) rfl rfl (by decide) k_a0 rfl rfl (Nat.le_of_ble_eq_true rfl) zd_X3_beNumber_0.2.1.1 (ok_X3_add hW k_a0 h4) ?_
  refine rn_aload_n (q := 0) 0 rfl zd_X3_beNumber_0.2.1.2.1 ?_
  refine rn_iconst (v := 4) zd_X3_beNumber_0.2.1.2.2 rfl ?_
  refine rn_iconst (v := 0) zd_X3_beNumber_0.2.2.1 rfl ?_
  obtain ⟨M5, h6, h⟩ := zbd_e h
  refine rn_callVv (As := [.int (4 : Int32), .int (0 : Int32)]) (rest := []) zl_X3_32 zm_X3_add ⟨by decide, by decide⟩ (ci := 3) rfl rfl (by decide) k_a0 rfl rfl (Nat.le_of_ble_eq_true rfl) zd_X3_beNumber_0.2.2.2.1 (ok_X3_add hW k_a0 h6) ?_
  cases h
  exact rn_vret zd_X3_beNumber_0.2.2.2.2 rfl
def f_X3_leadHere (R : zR) (M : zM) (a0 : Nat) (x1 : Int32) : Option (zM) :=
  if x1 < 0 then (
    some M
  ) else (
    if (400 : Int32) ≤ x1 then (
      some M
    ) else (
      zck (zin x1 400) <|
      zlt (zup M (R a0 1) (ztn x1) (M a0 3)) fun M4 =>
      some M4
    )
  )
set_option maxRecDepth 4000 in
theorem ok_X3_leadHere {G : zG} {K : zK} {R : zR} {M : zM} {L : zL} (hW : zWT R K) {a0 : Nat} {x1 : Int32} (k_a0 : K[a0]? = some (3, 5)) {M' : zM} (h : f_X3_leadHere R M a0 x1 = some M') : Rm G mt_X3_leadHere [.ref a0, .int x1] (M, L, R, K) none (M', L, R, K) := by
  refine rm_rn rfl rfl (Nat.le_of_ble_eq_true rfl) ?_
  show Rn G mt_X3_leadHere 0 [(0, .ref a0), (1, .int x1)] [] (M, L, R, K) none (M', L, R, K)
  unfold f_X3_leadHere at h
  refine rn_iload_n (q := 1) 1 rfl zd_X3_leadHere_0.1.1.1 ?_
  rcases zif_e h with ⟨hc1, h⟩ | ⟨hc1, h⟩
  · refine rn_if_lt_t (tgt := 23) hc1 zd_X3_leadHere_0.1.1.2.1 rfl ?_
    cases h
    exact rn_vret zd_X3_leadHere_0.2.2.2.2 rfl
  · refine rn_if_lt_f (tgt := 23) hc1 zd_X3_leadHere_0.1.1.2.1 rfl ?_
    refine rn_iload_n (q := 1) 1 rfl zd_X3_leadHere_0.1.1.2.2 ?_
    refine rn_aload_n (q := 0) 0 rfl zd_X3_leadHere_0.1.2.1.1 ?_
    refine rn_getR zf_X3_15 (Or.inr ⟨_, rfl⟩) k_a0 (zx_3_1 hW k_a0) zd_X3_leadHere_0.1.2.1.2 ?_
    refine rn_alen (v := 400) (zw_3_1 hW k_a0) (Or.inl rfl) rfl zd_X3_leadHere_0.1.2.2.1 ?_
    rcases zif_e h with ⟨hc2, h⟩ | ⟨hc2, h⟩
    · refine rn_icmp_ge_t (tgt := 23) hc2 zd_X3_leadHere_0.1.2.2.2 rfl ?_
      cases h
      exact rn_vret zd_X3_leadHere_0.2.2.2.2 rfl
    · refine rn_icmp_ge_f (tgt := 23) hc2 zd_X3_leadHere_0.1.2.2.2 rfl ?_
      refine rn_aload_n (q := 0) 0 rfl zd_X3_leadHere_0.2.1.1 ?_
      refine rn_getR zf_X3_15 (Or.inr ⟨_, rfl⟩) k_a0 (zx_3_1 hW k_a0) zd_X3_leadHere_0.2.1.2.1 ?_
      refine rn_iload_n (q := 1) 1 rfl zd_X3_leadHere_0.2.1.2.2 ?_
      refine rn_aload_n (q := 0) 0 rfl zd_X3_leadHere_0.2.2.1.1 ?_
      refine rn_getI zf_X3_21 (Or.inl rfl) k_a0 zd_X3_leadHere_0.2.2.1.2 ?_
      obtain ⟨hc3, h⟩ := zck_e h
      obtain ⟨M4, hM4, h⟩ := zlt_e h
      refine rn_iast hM4 (zw_3_1 hW k_a0) hc3 zd_X3_leadHere_0.2.2.2.1 ?_
      cases h
      exact rn_vret zd_X3_leadHere_0.2.2.2.2 rfl
def f_X9_spelled (y0 : Int64) (x2 : Int32) : Option (Int64) :=
  some (((32 : Int64) * y0) + ((x2 - (97 : Int32)) + (1 : Int32)).toInt64)
set_option maxRecDepth 4000 in
theorem ok_X9_spelled {G : zG} {K : zK} {R : zR} {M : zM} {L : zL} (hW : zWT R K) {y0 : Int64} {x2 : Int32} {r' : Int64} (h : f_X9_spelled y0 x2 = some r') : Rm G mt_X9_spelled [.long y0, .int x2] (M, L, R, K) (some (.long r')) (M, L, R, K) := by
  refine rm_rn rfl rfl (Nat.le_of_ble_eq_true rfl) ?_
  show Rn G mt_X9_spelled 0 [(0, .long y0), (2, .int x2)] [] (M, L, R, K) (some (.long r')) (M, L, R, K)
  unfold f_X9_spelled at h
  refine rn_ldc2 (v := 32) zk_X9_77 zd_X9_spelled_0.1.1.1 ?_
  refine rn_lload_n (q := 0) 0 rfl zd_X9_spelled_0.1.1.2 ?_
  refine rn_lmul zd_X9_spelled_0.1.2.1 ?_
  refine rn_iload_n (q := 2) 1 rfl zd_X9_spelled_0.1.2.2.1 ?_
  refine rn_bipush (v := 97) zd_X9_spelled_0.1.2.2.2 rfl ?_
  refine rn_isub zd_X9_spelled_0.2.1.1 ?_
  refine rn_iconst (v := 1) zd_X9_spelled_0.2.1.2.1 rfl ?_
  refine rn_iadd zd_X9_spelled_0.2.1.2.2 ?_
  refine rn_i2l zd_X9_spelled_0.2.2.1 ?_
  refine rn_ladd zd_X9_spelled_0.2.2.2.1 ?_
  cases h
  exact rn_lret zd_X9_spelled_0.2.2.2.2 rfl
def f_X9_placeOf (R : zR) (M : zM) (a0 : Nat) (x1 : Int32) : Option (Int32) :=
  if x1 < 0 then (
    some (-1 : Int32)
  ) else (
    if (402 : Int32) ≤ x1 then (
      some (-1 : Int32)
    ) else (
      zck (zin x1 402) <|
      some (M (R a0 1) (ztn x1))
    )
  )
set_option maxRecDepth 4000 in
theorem ok_X9_placeOf {G : zG} {K : zK} {R : zR} {M : zM} {L : zL} (hW : zWT R K) {a0 : Nat} {x1 : Int32} (k_a0 : K[a0]? = some (9, 6)) {r' : Int32} (h : f_X9_placeOf R M a0 x1 = some r') : Rm G mt_X9_placeOf [.ref a0, .int x1] (M, L, R, K) (some (.int r')) (M, L, R, K) := by
  refine rm_rn rfl rfl (Nat.le_of_ble_eq_true rfl) ?_
  show Rn G mt_X9_placeOf 0 [(0, .ref a0), (1, .int x1)] [] (M, L, R, K) (some (.int r')) (M, L, R, K)
  unfold f_X9_placeOf at h
  refine rn_iload_n (q := 1) 1 rfl zd_X9_placeOf_0.1.1.1 ?_
  rcases zif_e h with ⟨hc1, h⟩ | ⟨hc1, h⟩
  · refine rn_if_lt_t (tgt := 22) hc1 zd_X9_placeOf_0.1.1.2.1 rfl ?_
    refine rn_iconst (v := -1) zd_X9_placeOf_0.2.2.2.1 rfl ?_
    cases h
    exact rn_iret zd_X9_placeOf_0.2.2.2.2 rfl
  · refine rn_if_lt_f (tgt := 22) hc1 zd_X9_placeOf_0.1.1.2.1 rfl ?_
    refine rn_iload_n (q := 1) 1 rfl zd_X9_placeOf_0.1.1.2.2 ?_
    refine rn_aload_n (q := 0) 0 rfl zd_X9_placeOf_0.1.2.1.1 ?_
    refine rn_getR zf_X9_15 (Or.inr ⟨_, rfl⟩) k_a0 (zx_9_1 hW k_a0) zd_X9_placeOf_0.1.2.1.2 ?_
    refine rn_alen (v := 402) (zw_9_1 hW k_a0) (Or.inl rfl) rfl zd_X9_placeOf_0.1.2.2.1 ?_
    rcases zif_e h with ⟨hc2, h⟩ | ⟨hc2, h⟩
    · refine rn_icmp_ge_t (tgt := 22) hc2 zd_X9_placeOf_0.1.2.2.2 rfl ?_
      refine rn_iconst (v := -1) zd_X9_placeOf_0.2.2.2.1 rfl ?_
      cases h
      exact rn_iret zd_X9_placeOf_0.2.2.2.2 rfl
    · refine rn_icmp_ge_f (tgt := 22) hc2 zd_X9_placeOf_0.1.2.2.2 rfl ?_
      refine rn_aload_n (q := 0) 0 rfl zd_X9_placeOf_0.2.1.1 ?_
      refine rn_getR zf_X9_15 (Or.inr ⟨_, rfl⟩) k_a0 (zx_9_1 hW k_a0) zd_X9_placeOf_0.2.1.2.1 ?_
      refine rn_iload_n (q := 1) 1 rfl zd_X9_placeOf_0.2.1.2.2 ?_
      obtain ⟨hc3, h⟩ := zck_e h
      refine rn_iald (zw_9_1 hW k_a0) hc3 zd_X9_placeOf_0.2.2.1.1 ?_
      refine rn_goto (tgt := 23) zd_X9_placeOf_0.2.2.1.2 rfl ?_
      cases h
      exact rn_iret zd_X9_placeOf_0.2.2.2.2 rfl
def f_X9_kindAt (R : zR) (M : zM) (a0 : Nat) (x1 : Int32) : Option (Int32) :=
  if x1 < 0 then (
    some (0 : Int32)
  ) else (
    if (402 : Int32) ≤ x1 then (
      some (0 : Int32)
    ) else (
      zck (zin x1 402) <|
      some (M (R a0 0) (ztn x1))
    )
  )
set_option maxRecDepth 4000 in
theorem ok_X9_kindAt {G : zG} {K : zK} {R : zR} {M : zM} {L : zL} (hW : zWT R K) {a0 : Nat} {x1 : Int32} (k_a0 : K[a0]? = some (9, 6)) {r' : Int32} (h : f_X9_kindAt R M a0 x1 = some r') : Rm G mt_X9_kindAt [.ref a0, .int x1] (M, L, R, K) (some (.int r')) (M, L, R, K) := by
  refine rm_rn rfl rfl (Nat.le_of_ble_eq_true rfl) ?_
  show Rn G mt_X9_kindAt 0 [(0, .ref a0), (1, .int x1)] [] (M, L, R, K) (some (.int r')) (M, L, R, K)
  unfold f_X9_kindAt at h
  refine rn_iload_n (q := 1) 1 rfl zd_X9_kindAt_0.1.1.1 ?_
  rcases zif_e h with ⟨hc1, h⟩ | ⟨hc1, h⟩
  · refine rn_if_lt_t (tgt := 22) hc1 zd_X9_kindAt_0.1.1.2.1 rfl ?_
    refine rn_iconst (v := 0) zd_X9_kindAt_0.2.2.2.1 rfl ?_
    cases h
    exact rn_iret zd_X9_kindAt_0.2.2.2.2 rfl
  · refine rn_if_lt_f (tgt := 22) hc1 zd_X9_kindAt_0.1.1.2.1 rfl ?_
    refine rn_iload_n (q := 1) 1 rfl zd_X9_kindAt_0.1.1.2.2 ?_
    refine rn_aload_n (q := 0) 0 rfl zd_X9_kindAt_0.1.2.1.1 ?_
    refine rn_getR zf_X9_9 (Or.inr ⟨_, rfl⟩) k_a0 (zx_9_0 hW k_a0) zd_X9_kindAt_0.1.2.1.2 ?_
    refine rn_alen (v := 402) (zw_9_0 hW k_a0) (Or.inl rfl) rfl zd_X9_kindAt_0.1.2.2.1 ?_
    rcases zif_e h with ⟨hc2, h⟩ | ⟨hc2, h⟩
    · refine rn_icmp_ge_t (tgt := 22) hc2 zd_X9_kindAt_0.1.2.2.2 rfl ?_
      refine rn_iconst (v := 0) zd_X9_kindAt_0.2.2.2.1 rfl ?_
      cases h
      exact rn_iret zd_X9_kindAt_0.2.2.2.2 rfl
    · refine rn_icmp_ge_f (tgt := 22) hc2 zd_X9_kindAt_0.1.2.2.2 rfl ?_
      refine rn_aload_n (q := 0) 0 rfl zd_X9_kindAt_0.2.1.1 ?_
      refine rn_getR zf_X9_9 (Or.inr ⟨_, rfl⟩) k_a0 (zx_9_0 hW k_a0) zd_X9_kindAt_0.2.1.2.1 ?_
      refine rn_iload_n (q := 1) 1 rfl zd_X9_kindAt_0.2.1.2.2 ?_
      obtain ⟨hc3, h⟩ := zck_e h
      refine rn_iald (zw_9_0 hW k_a0) hc3 zd_X9_kindAt_0.2.2.1.1 ?_
      refine rn_goto (tgt := 23) zd_X9_kindAt_0.2.2.1.2 rfl ?_
      cases h
      exact rn_iret zd_X9_kindAt_0.2.2.2.2 rfl
def f_X7_addHouse (R : zR) (M : zM) (a0 : Nat) (x1 : Int32) : Option (zM) :=
  if (M a0 5) < 0 then (
    some M
  ) else (
    if (10 : Int32) ≤ (M a0 5) then (
      some M
    ) else (
      zlt (zup M a0 5 ((M a0 5) + (1 : Int32))) fun M3 =>
      zck (zin (M a0 5) 10) <|
      zlt (zup M3 (R a0 2) (ztn (M a0 5)) x1) fun M5 =>
      some M5
    )
  )
set_option maxRecDepth 4000 in
theorem ok_X7_addHouse {G : zG} {K : zK} {R : zR} {M : zM} {L : zL} (hW : zWT R K) {a0 : Nat} {x1 : Int32} (k_a0 : K[a0]? = some (7, 11)) {M' : zM} (h : f_X7_addHouse R M a0 x1 = some M') : Rm G mt_X7_addHouse [.ref a0, .int x1] (M, L, R, K) none (M', L, R, K) := by
  refine rm_rn rfl rfl (Nat.le_of_ble_eq_true rfl) ?_
  show Rn G mt_X7_addHouse 0 [(0, .ref a0), (1, .int x1)] [] (M, L, R, K) none (M', L, R, K)
  unfold f_X7_addHouse at h
  refine rn_aload_n (q := 0) 0 rfl zd_X7_addHouse_0.1.1.1.1 ?_
  refine rn_getI zf_X7_41 (Or.inl rfl) k_a0 zd_X7_addHouse_0.1.1.1.2 ?_
  rcases zif_e h with ⟨hc1, h⟩ | ⟨hc1, h⟩
  · refine rn_if_lt_t (tgt := 36) hc1 zd_X7_addHouse_0.1.1.2.1 rfl ?_
    cases h
    exact rn_vret zd_X7_addHouse_1.2.2.2 rfl
  · refine rn_if_lt_f (tgt := 36) hc1 zd_X7_addHouse_0.1.1.2.1 rfl ?_
    refine rn_aload_n (q := 0) 0 rfl zd_X7_addHouse_0.1.1.2.2 ?_
    refine rn_getI zf_X7_41 (Or.inl rfl) k_a0 zd_X7_addHouse_0.1.2.1.1 ?_
    refine rn_aload_n (q := 0) 0 rfl zd_X7_addHouse_0.1.2.1.2 ?_
    refine rn_getR zf_X7_21 (Or.inr ⟨_, rfl⟩) k_a0 (zx_7_2 hW k_a0) zd_X7_addHouse_0.1.2.2.1 ?_
    refine rn_alen (v := 10) (zw_7_2 hW k_a0) (Or.inl rfl) rfl zd_X7_addHouse_0.1.2.2.2 ?_
    rcases zif_e h with ⟨hc2, h⟩ | ⟨hc2, h⟩
    · refine rn_icmp_ge_t (tgt := 36) hc2 zd_X7_addHouse_0.2.1.1.1 rfl ?_
      cases h
      exact rn_vret zd_X7_addHouse_1.2.2.2 rfl
    · refine rn_icmp_ge_f (tgt := 36) hc2 zd_X7_addHouse_0.2.1.1.1 rfl ?_
      refine rn_aload_n (q := 0) 0 rfl zd_X7_addHouse_0.2.1.1.2 ?_
      refine rn_getR zf_X7_21 (Or.inr ⟨_, rfl⟩) k_a0 (zx_7_2 hW k_a0) zd_X7_addHouse_0.2.1.2.1 ?_
      refine rn_aload_n (q := 0) 0 rfl zd_X7_addHouse_0.2.1.2.2 ?_
      refine rn_dup zd_X7_addHouse_0.2.2.1.1 rfl ?_
      refine rn_getI zf_X7_41 (Or.inl rfl) k_a0 zd_X7_addHouse_0.2.2.1.2 ?_
      refine rn_dup_x1 zd_X7_addHouse_0.2.2.2.1 rfl rfl ?_
      refine rn_iconst (v := 1) zd_X7_addHouse_0.2.2.2.2 rfl ?_
      refine rn_iadd zd_X7_addHouse_1.1.1 ?_
      obtain ⟨M3, hM3, h⟩ := zlt_e h
      refine rn_putI hM3 zf_X7_41 k_a0 zd_X7_addHouse_1.1.2 ?_
      refine rn_iload_n (q := 1) 1 rfl zd_X7_addHouse_1.2.1 ?_
      obtain ⟨hc4, h⟩ := zck_e h
      obtain ⟨M5, hM5, h⟩ := zlt_e h
      refine rn_iast hM5 (zw_7_2 hW k_a0) hc4 zd_X7_addHouse_1.2.2.1 ?_
      cases h
      exact rn_vret zd_X7_addHouse_1.2.2.2 rfl
def f_X9_valueOf (R : zR) (L : zL) (a0 : Nat) (x1 : Int32) : Option (Int64) :=
  if x1 < 0 then (
    some (0 : Int64)
  ) else (
    if (402 : Int32) ≤ x1 then (
      some (0 : Int64)
    ) else (
      zck (zin x1 402) <|
      some (L (R a0 2) (ztn x1))
    )
  )
set_option maxRecDepth 4000 in
theorem ok_X9_valueOf {G : zG} {K : zK} {R : zR} {M : zM} {L : zL} (hW : zWT R K) {a0 : Nat} {x1 : Int32} (k_a0 : K[a0]? = some (9, 6)) {r' : Int64} (h : f_X9_valueOf R L a0 x1 = some r') : Rm G mt_X9_valueOf [.ref a0, .int x1] (M, L, R, K) (some (.long r')) (M, L, R, K) := by
  refine rm_rn rfl rfl (Nat.le_of_ble_eq_true rfl) ?_
  show Rn G mt_X9_valueOf 0 [(0, .ref a0), (1, .int x1)] [] (M, L, R, K) (some (.long r')) (M, L, R, K)
  unfold f_X9_valueOf at h
  refine rn_iload_n (q := 1) 1 rfl zd_X9_valueOf_0.1.1.1 ?_
  rcases zif_e h with ⟨hc1, h⟩ | ⟨hc1, h⟩
  · refine rn_if_lt_t (tgt := 22) hc1 zd_X9_valueOf_0.1.1.2.1 rfl ?_
    refine rn_lconst (v := 0) zd_X9_valueOf_0.2.2.2.1 rfl ?_
    cases h
    exact rn_lret zd_X9_valueOf_0.2.2.2.2 rfl
  · refine rn_if_lt_f (tgt := 22) hc1 zd_X9_valueOf_0.1.1.2.1 rfl ?_
    refine rn_iload_n (q := 1) 1 rfl zd_X9_valueOf_0.1.1.2.2 ?_
    refine rn_aload_n (q := 0) 0 rfl zd_X9_valueOf_0.1.2.1.1 ?_
    refine rn_getR zf_X9_18 (Or.inr ⟨_, rfl⟩) k_a0 (zx_9_2 hW k_a0) zd_X9_valueOf_0.1.2.1.2 ?_
    refine rn_alen (v := 402) (zw_9_2 hW k_a0) (Or.inr (Or.inr (Or.inr (Or.inl rfl)))) rfl zd_X9_valueOf_0.1.2.2.1 ?_
    rcases zif_e h with ⟨hc2, h⟩ | ⟨hc2, h⟩
    · refine rn_icmp_ge_t (tgt := 22) hc2 zd_X9_valueOf_0.1.2.2.2 rfl ?_
      refine rn_lconst (v := 0) zd_X9_valueOf_0.2.2.2.1 rfl ?_
      cases h
      exact rn_lret zd_X9_valueOf_0.2.2.2.2 rfl
    · refine rn_icmp_ge_f (tgt := 22) hc2 zd_X9_valueOf_0.1.2.2.2 rfl ?_
      refine rn_aload_n (q := 0) 0 rfl zd_X9_valueOf_0.2.1.1 ?_
      refine rn_getR zf_X9_18 (Or.inr ⟨_, rfl⟩) k_a0 (zx_9_2 hW k_a0) zd_X9_valueOf_0.2.1.2.1 ?_
      refine rn_iload_n (q := 1) 1 rfl zd_X9_valueOf_0.2.1.2.2 ?_
      obtain ⟨hc3, h⟩ := zck_e h
      refine rn_lald (zw_9_2 hW k_a0) hc3 zd_X9_valueOf_0.2.2.1.1 ?_
      refine rn_goto (tgt := 23) zd_X9_valueOf_0.2.2.1.2 rfl ?_
      cases h
      exact rn_lret zd_X9_valueOf_0.2.2.2.2 rfl
def f_X7_share (M : zM) (a0 : Nat) (x1 : Int32) (x2 : Int32) : Option (zM) :=
  zlt (zup M a0 8 x1) fun M1 =>
  zlt (zup M1 a0 9 x2) fun M2 =>
  some M2
set_option maxRecDepth 4000 in
theorem ok_X7_share {G : zG} {K : zK} {R : zR} {M : zM} {L : zL} (hW : zWT R K) {a0 : Nat} {x1 : Int32} {x2 : Int32} (k_a0 : K[a0]? = some (7, 11)) {M' : zM} (h : f_X7_share M a0 x1 x2 = some M') : Rm G mt_X7_share [.ref a0, .int x1, .int x2] (M, L, R, K) none (M', L, R, K) := by
  refine rm_rn rfl rfl (Nat.le_of_ble_eq_true rfl) ?_
  show Rn G mt_X7_share 0 [(0, .ref a0), (1, .int x1), (2, .int x2)] [] (M, L, R, K) none (M', L, R, K)
  unfold f_X7_share at h
  refine rn_aload_n (q := 0) 0 rfl zd_X7_share_0.1.1 ?_
  refine rn_iload_n (q := 1) 1 rfl zd_X7_share_0.1.2.1 ?_
  obtain ⟨M1, hM1, h⟩ := zlt_e h
  refine rn_putI hM1 zf_X7_52 k_a0 zd_X7_share_0.1.2.2 ?_
  refine rn_aload_n (q := 0) 0 rfl zd_X7_share_0.2.1.1 ?_
  refine rn_iload_n (q := 2) 2 rfl zd_X7_share_0.2.1.2 ?_
  obtain ⟨M2, hM2, h⟩ := zlt_e h
  refine rn_putI hM2 zf_X7_55 k_a0 zd_X7_share_0.2.2.1 ?_
  cases h
  exact rn_vret zd_X7_share_0.2.2.2 rfl
def f_X7_clear (R : zR) (M : zM) (a0 : Nat) : Option (zM) :=
  zbd (f_X3_beSeen R M (R a0 0) (3 : Int32)) fun M1 =>
  zbd (f_X3_beNumber R M1 (R a0 1) (0 : Int32)) fun M3 =>
  zlt (zup M3 a0 5 (0 : Int32)) fun M5 =>
  zlt (zup M5 a0 6 (0 : Int32)) fun M6 =>
  zlt (zup M6 a0 7 (0 : Int32)) fun M7 =>
  zlt (zup M7 a0 8 (0 : Int32)) fun M8 =>
  zlt (zup M8 a0 9 (7 : Int32)) fun M9 =>
  zlt (zup M9 a0 10 (0 : Int32)) fun M10 =>
  some M10
set_option maxRecDepth 4000 in
theorem ok_X7_clear {G : zG} {K : zK} {R : zR} {M : zM} {L : zL} (hW : zWT R K) {a0 : Nat} (k_a0 : K[a0]? = some (7, 11)) {M' : zM} (h : f_X7_clear R M a0 = some M') : Rm G mt_X7_clear [.ref a0] (M, L, R, K) none (M', L, R, K) := by
  refine rm_rn rfl rfl (Nat.le_of_ble_eq_true rfl) ?_
  show Rn G mt_X7_clear 0 [(0, .ref a0)] [] (M, L, R, K) none (M', L, R, K)
  unfold f_X7_clear at h
  refine rn_aload_n (q := 0) 0 rfl zd_X7_clear_0.1.1.1.1 ?_
  refine rn_getR zf_X7_12 (Or.inl ⟨_, rfl⟩) k_a0 (zx_7_0 hW k_a0) zd_X7_clear_0.1.1.1.2 ?_
  refine rn_iconst (v := 3) zd_X7_clear_0.1.1.2.1 rfl ?_
  obtain ⟨M1, h2, h⟩ := zbd_e h
  refine rn_callVv (As := [.int (3 : Int32)]) (rest := []) zl_X7_34 zm_X3_beSeen ⟨by decide, by decide⟩ (ci := 3) rfl rfl (by decide) (zw_7_0 hW k_a0) rfl rfl (Nat.le_of_ble_eq_true rfl) zd_X7_clear_0.1.1.2.2 (ok_X3_beSeen hW (zw_7_0 hW k_a0) h2) ?_
  refine rn_aload_n (q := 0) 0 rfl zd_X7_clear_0.1.2.1.1 ?_
  refine rn_getR zf_X7_18 (Or.inl ⟨_, rfl⟩) k_a0 (zx_7_1 hW k_a0) zd_X7_clear_0.1.2.1.2 ?_
  refine rn_iconst (v := 0) zd_X7_clear_0.1.2.2.1 rfl ?_
  obtain ⟨M3, h4, h⟩ := zbd_e h
  refine rn_callVv (As := [.int (0 : Int32)]) (rest := []) zl_X7_38 zm_X3_beNumber ⟨by decide, by decide⟩ (ci := 3) rfl rfl (by decide) (zw_7_1 hW k_a0) rfl rfl (Nat.le_of_ble_eq_true rfl) zd_X7_clear_0.1.2.2.2 (ok_X3_beNumber hW (zw_7_1 hW k_a0) h4) ?_
  refine rn_aload_n (q := 0) 0 rfl zd_X7_clear_0.2.1.1.1 ?_
  refine rn_iconst (v := 0) zd_X7_clear_0.2.1.1.2 rfl ?_
  obtain ⟨M5, hM5, h⟩ := zlt_e h
  refine rn_putI hM5 zf_X7_41 k_a0 zd_X7_clear_0.2.1.2.1 ?_
  refine rn_aload_n (q := 0) 0 rfl zd_X7_clear_0.2.1.2.2 ?_
  refine rn_iconst (v := 0) zd_X7_clear_0.2.2.1.1 rfl ?_
  obtain ⟨M6, hM6, h⟩ := zlt_e h
  refine rn_putB (Or.inl rfl) hM6 zf_X7_45 k_a0 zd_X7_clear_0.2.2.1.2 ?_
  refine rn_aload_n (q := 0) 0 rfl zd_X7_clear_0.2.2.2.1 ?_
  refine rn_iconst (v := 0) zd_X7_clear_0.2.2.2.2 rfl ?_
  obtain ⟨M7, hM7, h⟩ := zlt_e h
  refine rn_putB (Or.inl rfl) hM7 zf_X7_49 k_a0 zd_X7_clear_1.1.1.1 ?_
  refine rn_aload_n (q := 0) 0 rfl zd_X7_clear_1.1.1.2 ?_
  refine rn_iconst (v := 0) zd_X7_clear_1.1.2.1 rfl ?_
  obtain ⟨M8, hM8, h⟩ := zlt_e h
  refine rn_putI hM8 zf_X7_52 k_a0 zd_X7_clear_1.1.2.2.1 ?_
  refine rn_aload_n (q := 0) 0 rfl zd_X7_clear_1.1.2.2.2 ?_
  refine rn_bipush (v := 7) zd_X7_clear_1.2.1.1 rfl ?_
  obtain ⟨M9, hM9, h⟩ := zlt_e h
  refine rn_putI hM9 zf_X7_55 k_a0 zd_X7_clear_1.2.1.2.1 ?_
  refine rn_aload_n (q := 0) 0 rfl zd_X7_clear_1.2.1.2.2 ?_
  refine rn_iconst (v := 0) zd_X7_clear_1.2.2.1 rfl ?_
  obtain ⟨M10, hM10, h⟩ := zlt_e h
  refine rn_putI hM10 zf_X7_58 k_a0 zd_X7_clear_1.2.2.2.1 ?_
  cases h
  exact rn_vret zd_X7_clear_1.2.2.2.2 rfl
def f_X8_byteAt (R : zR) (M : zM) (a0 : Nat) (x1 : Int32) : Option (Int32) :=
  if x1 < 0 then (
    some (0 : Int32)
  ) else (
    if (2000 : Int32) ≤ x1 then (
      some (0 : Int32)
    ) else (
      zck (zin x1 2000) <|
      some ((M (R a0 0) (ztn x1)) &&& (255 : Int32))
    )
  )
set_option maxRecDepth 4000 in
theorem ok_X8_byteAt {G : zG} {K : zK} {R : zR} {M : zM} {L : zL} (hW : zWT R K) {a0 : Nat} {x1 : Int32} (k_a0 : K[a0]? = some (8, 2)) {r' : Int32} (h : f_X8_byteAt R M a0 x1 = some r') : Rm G mt_X8_byteAt [.ref a0, .int x1] (M, L, R, K) (some (.int r')) (M, L, R, K) := by
  refine rm_rn rfl rfl (Nat.le_of_ble_eq_true rfl) ?_
  show Rn G mt_X8_byteAt 0 [(0, .ref a0), (1, .int x1)] [] (M, L, R, K) (some (.int r')) (M, L, R, K)
  unfold f_X8_byteAt at h
  refine rn_iload_n (q := 1) 1 rfl zd_X8_byteAt_0.1.1.1.1 ?_
  rcases zif_e h with ⟨hc1, h⟩ | ⟨hc1, h⟩
  · refine rn_if_lt_t (tgt := 26) hc1 zd_X8_byteAt_0.1.1.1.2 rfl ?_
    refine rn_iconst (v := 0) zd_X8_byteAt_0.2.2.2.1 rfl ?_
    cases h
    exact rn_iret zd_X8_byteAt_0.2.2.2.2 rfl
  · refine rn_if_lt_f (tgt := 26) hc1 zd_X8_byteAt_0.1.1.1.2 rfl ?_
    refine rn_iload_n (q := 1) 1 rfl zd_X8_byteAt_0.1.1.2.1 ?_
    refine rn_aload_n (q := 0) 0 rfl zd_X8_byteAt_0.1.1.2.2 ?_
    refine rn_getR zf_X8_9 (Or.inr ⟨_, rfl⟩) k_a0 (zx_8_0 hW k_a0) zd_X8_byteAt_0.1.2.1.1 ?_
    refine rn_alen (v := 2000) (zw_8_0 hW k_a0) (Or.inr (Or.inl rfl)) rfl zd_X8_byteAt_0.1.2.1.2 ?_
    rcases zif_e h with ⟨hc2, h⟩ | ⟨hc2, h⟩
    · refine rn_icmp_ge_t (tgt := 26) hc2 zd_X8_byteAt_0.1.2.2.1 rfl ?_
      refine rn_iconst (v := 0) zd_X8_byteAt_0.2.2.2.1 rfl ?_
      cases h
      exact rn_iret zd_X8_byteAt_0.2.2.2.2 rfl
    · refine rn_icmp_ge_f (tgt := 26) hc2 zd_X8_byteAt_0.1.2.2.1 rfl ?_
      refine rn_aload_n (q := 0) 0 rfl zd_X8_byteAt_0.1.2.2.2 ?_
      refine rn_getR zf_X8_9 (Or.inr ⟨_, rfl⟩) k_a0 (zx_8_0 hW k_a0) zd_X8_byteAt_0.2.1.1.1 ?_
      refine rn_iload_n (q := 1) 1 rfl zd_X8_byteAt_0.2.1.1.2 ?_
      obtain ⟨hc3, h⟩ := zck_e h
      refine rn_bald (zw_8_0 hW k_a0) hc3 zd_X8_byteAt_0.2.1.2.1 ?_
      refine rn_sipush (v := 255) zd_X8_byteAt_0.2.1.2.2 rfl ?_
      refine rn_iand zd_X8_byteAt_0.2.2.1.1 ?_
      refine rn_goto (tgt := 27) zd_X8_byteAt_0.2.2.1.2 rfl ?_
      cases h
      exact rn_iret zd_X8_byteAt_0.2.2.2.2 rfl
abbrev P_X9_wordOrName_2 (G : zG) (K : zK) (R : zR) (M : zM) (L : zL) (a0 : Nat) (y1 : Int64) (r : Option Value) (S' : zS) (v : Int32) : Prop := Rn G mt_X9_wordOrName 2 [(0, .ref a0), (1, .long y1), (3, .int v)] [] (M, L, R, K) r S'
abbrev Q_X9_wordOrName_2 (G : zG) (K : zK) (R : zR) (M : zM) (L : zL) (a0 : Nat) (y1 : Int64) (r : Option Value) (S' : zS) : (Int32) ⊕ (Unit) → Prop := (Sum.elim (fun e => Rn G mt_X9_wordOrName 22 [(3, .int e)] [] (M, L, R, K) r S') (fun e => Rn G mt_X9_wordOrName 33 [] [] (M, L, R, K) r S'))
def b_X9_wordOrName_2 (R : zR) (L : zL) (a0 : Nat) (y1 : Int64) (x3 : Int32) : Option ((Int32) ⊕ ((Int32) ⊕ (Unit))) :=
  if (20 : Int32) ≤ x3 then (
    some (.inr (.inr ()))
  ) else (
    zck (zin x3 20) <|
    if (lg_cmp (L (R a0 3) (ztn x3)) y1) = 0 then (
      some (.inr (.inl x3))
    ) else (
      some (.inl (x3 + 1))
    )
  )
set_option maxRecDepth 4000 in
theorem ok_b_X9_wordOrName_2 {G : zG} {K : zK} {R : zR} {M : zM} {L : zL} (hW : zWT R K) {a0 : Nat} {y1 : Int64} {x3 : Int32} (k_a0 : K[a0]? = some (9, 6)) {r : Option Value} {S' : zS} {x : (Int32) ⊕ ((Int32) ⊕ (Unit))} (h : b_X9_wordOrName_2 R L a0 y1 x3 = some x) (hk : Sum.elim (P_X9_wordOrName_2 G K R M L a0 y1 r S') (Q_X9_wordOrName_2 G K R M L a0 y1 r S') x) : P_X9_wordOrName_2 G K R M L a0 y1 r S' x3 := by
  show Rn G mt_X9_wordOrName 2 [(0, .ref a0), (1, .long y1), (3, .int x3)] [] (M, L, R, K) r S'
  unfold b_X9_wordOrName_2 at h
  refine rn_iload_n (q := 3) 2 rfl zd_X9_wordOrName_0.1.1.2.1 ?_
  refine rn_aload_n (q := 0) 0 rfl zd_X9_wordOrName_0.1.1.2.2 ?_
  refine rn_getR zf_X9_22 (Or.inr ⟨_, rfl⟩) k_a0 (zx_9_3 hW k_a0) zd_X9_wordOrName_0.1.2.1.1 ?_
  refine rn_alen (v := 20) (zw_9_3 hW k_a0) (Or.inr (Or.inr (Or.inr (Or.inl rfl)))) rfl zd_X9_wordOrName_0.1.2.1.2 ?_
  rcases zif_e h with ⟨hc1, h⟩ | ⟨hc1, h⟩
  · refine rn_icmp_ge_t (tgt := 33) hc1 zd_X9_wordOrName_0.1.2.2.1 rfl ?_
    cases h
    exact rn_sub (ls' := []) [] rfl hk
  · refine rn_icmp_ge_f (tgt := 33) hc1 zd_X9_wordOrName_0.1.2.2.1 rfl ?_
    refine rn_aload_n (q := 0) 0 rfl zd_X9_wordOrName_0.1.2.2.2 ?_
    refine rn_getR zf_X9_22 (Or.inr ⟨_, rfl⟩) k_a0 (zx_9_3 hW k_a0) zd_X9_wordOrName_0.2.1.1.1 ?_
    refine rn_iload_n (q := 3) 2 rfl zd_X9_wordOrName_0.2.1.1.2 ?_
    obtain ⟨hc2, h⟩ := zck_e h
    refine rn_lald (zw_9_3 hW k_a0) hc2 zd_X9_wordOrName_0.2.1.2.1 ?_
    refine rn_lload_n (q := 1) 1 rfl zd_X9_wordOrName_0.2.1.2.2 ?_
    refine rn_lcmp zd_X9_wordOrName_0.2.2.1.1 ?_
    rcases zif_e h with ⟨hc3, h⟩ | ⟨hc3, h⟩
    · refine rn_if_ne_f (tgt := 27) hc3 zd_X9_wordOrName_0.2.2.1.2 rfl ?_
      cases h
      exact rn_sub (ls' := [(3, .int x3)]) [2] rfl hk
    · refine rn_if_ne_t (tgt := 27) hc3 zd_X9_wordOrName_0.2.2.1.2 rfl ?_
      refine rn_iinc (v := (x3 + 1)) (ls' := [(3, .int (x3 + 1)), (0, .ref a0), (1, .long y1)]) 2 rfl rfl (by decide) rfl zd_X9_wordOrName_1.1.2.2 ?_
      refine rn_goto (tgt := 2) zd_X9_wordOrName_1.2.1 rfl ?_
      cases h
      exact rn_sub (ls' := [(0, .ref a0), (1, .long y1), (3, .int (x3 + 1))]) [1, 2, 0] rfl hk
def f_X9_wordOrName (R : zR) (L : zL) (a0 : Nat) (y1 : Int64) : Option (Int32) :=
  zbd (zloop zN (fun v => b_X9_wordOrName_2 R L a0 y1 v) (0 : Int32)) fun e4 =>
  Sum.elim (fun e5 =>
    some ((100 : Int32) + e5)
  ) (fun e6 =>
    some (2 : Int32)
  ) e4
set_option maxRecDepth 4000 in
theorem ok_X9_wordOrName {G : zG} {K : zK} {R : zR} {M : zM} {L : zL} (hW : zWT R K) {a0 : Nat} {y1 : Int64} (k_a0 : K[a0]? = some (9, 6)) {r' : Int32} (h : f_X9_wordOrName R L a0 y1 = some r') : Rm G mt_X9_wordOrName [.ref a0, .long y1] (M, L, R, K) (some (.int r')) (M, L, R, K) := by
  refine rm_rn rfl rfl (Nat.le_of_ble_eq_true rfl) ?_
  show Rn G mt_X9_wordOrName 0 [(0, .ref a0), (1, .long y1)] [] (M, L, R, K) (some (.int r')) (M, L, R, K)
  unfold f_X9_wordOrName at h
  refine rn_iconst (v := 0) zd_X9_wordOrName_0.1.1.1.1 rfl ?_
  refine rn_istore_n (q := 3) (ls' := [(3, .int (0 : Int32)), (0, .ref a0), (1, .long y1)]) (by decide) rfl zd_X9_wordOrName_0.1.1.1.2 ?_
  obtain ⟨e4, he4, h⟩ := zbd_e h
  refine rn_sub (ls' := [(0, .ref a0), (1, .long y1), (3, .int (0 : Int32))]) [1, 2, 0] rfl (zloop_ok (P := P_X9_wordOrName_2 G K R M L a0 y1 (some (.int r')) (M, L, R, K)) (Q := Q_X9_wordOrName_2 G K R M L a0 y1 (some (.int r')) (M, L, R, K)) (fun v x hx hq => ok_b_X9_wordOrName_2 hW k_a0 hx hq) _ _ _ he4 ?_)
  rcases e4 with e5 | e6
  · rw [Sum.elim_inl] at h
    show Rn G mt_X9_wordOrName 22 [(3, .int e5)] [] (M, L, R, K) (some (.int r')) (M, L, R, K)
    refine rn_bipush (v := 100) zd_X9_wordOrName_0.2.2.2.1 rfl ?_
    refine rn_iload_n (q := 3) 0 rfl zd_X9_wordOrName_0.2.2.2.2 ?_
    refine rn_iadd zd_X9_wordOrName_1.1.1 ?_
    cases h
    exact rn_iret zd_X9_wordOrName_1.1.2.1 rfl
  · rw [Sum.elim_inr] at h
    show Rn G mt_X9_wordOrName 33 [] [] (M, L, R, K) (some (.int r')) (M, L, R, K)
    refine rn_iconst (v := 2) zd_X9_wordOrName_1.2.2.1 rfl ?_
    cases h
    exact rn_iret zd_X9_wordOrName_1.2.2.2 rfl
abbrev P_X9_close_2 (G : zG) (K : zK) (R : zR) (L : zL) (a0 : Nat) (x1 : Int32) (r : Option Value) (S' : zS) (v : Int32 × zM) : Prop := Rn G mt_X9_close 2 [(0, .ref a0), (1, .int x1), (2, .int v.1)] [] (v.2, L, R, K) r S'
abbrev Q_X9_close_2 (G : zG) (K : zK) (R : zR) (L : zL) (a0 : Nat) (x1 : Int32) (r : Option Value) (S' : zS) : (zM) → Prop := (fun e => Rn G mt_X9_close 51 [(0, .ref a0), (1, .int x1)] [] (e, L, R, K) r S')
def b_X9_close_2 (R : zR) (M : zM) (L : zL) (a0 : Nat) (x1 : Int32) (x2 : Int32) : Option ((Int32 × zM) ⊕ ((zM))) :=
  if (M a0 4) ≤ x2 then (
    some (.inr M)
  ) else (
    if (402 : Int32) ≤ x2 then (
      some (.inr M)
    ) else (
      zck (zin x2 402) <|
      if (M (R a0 0) (ztn x2)) = (2 : Int32) then (
        zck (zin x2 402) <|
        zbd (f_X9_wordOrName R L a0 (L (R a0 2) (ztn x2))) fun r6 =>
        zck (zin x2 402) <|
        zlt (zup M (R a0 0) (ztn x2) r6) fun M9 =>
        some (.inl ((x2 + 1), M9))
      ) else (
        some (.inl ((x2 + 1), M))
      )
    )
  )
set_option maxRecDepth 4000 in
theorem ok_b_X9_close_2 {G : zG} {K : zK} {R : zR} {M : zM} {L : zL} (hW : zWT R K) {a0 : Nat} {x1 : Int32} {x2 : Int32} (k_a0 : K[a0]? = some (9, 6)) {r : Option Value} {S' : zS} {x : (Int32 × zM) ⊕ ((zM))} (h : b_X9_close_2 R M L a0 x1 x2 = some x) (hk : Sum.elim (P_X9_close_2 G K R L a0 x1 r S') (Q_X9_close_2 G K R L a0 x1 r S') x) : P_X9_close_2 G K R L a0 x1 r S' (x2, M) := by
  show Rn G mt_X9_close 2 [(0, .ref a0), (1, .int x1), (2, .int x2)] [] (M, L, R, K) r S'
  unfold b_X9_close_2 at h
  refine rn_iload_n (q := 2) 2 rfl zd_X9_close_0.1.1.2.1 ?_
  refine rn_aload_n (q := 0) 0 rfl zd_X9_close_0.1.1.2.2 ?_
  refine rn_getI zf_X9_41 (Or.inl rfl) k_a0 zd_X9_close_0.1.2.1.1 ?_
  rcases zif_e h with ⟨hc1, h⟩ | ⟨hc1, h⟩
  · refine rn_icmp_ge_t (tgt := 51) hc1 zd_X9_close_0.1.2.1.2 rfl ?_
    cases h
    exact rn_sub (ls' := [(0, .ref a0), (1, .int x1)]) [0, 1] rfl hk
  · refine rn_icmp_ge_f (tgt := 51) hc1 zd_X9_close_0.1.2.1.2 rfl ?_
    refine rn_iload_n (q := 2) 2 rfl zd_X9_close_0.1.2.2.1 ?_
    refine rn_aload_n (q := 0) 0 rfl zd_X9_close_0.1.2.2.2 ?_
    refine rn_getR zf_X9_9 (Or.inr ⟨_, rfl⟩) k_a0 (zx_9_0 hW k_a0) zd_X9_close_0.2.1.1.1 ?_
    refine rn_alen (v := 402) (zw_9_0 hW k_a0) (Or.inl rfl) rfl zd_X9_close_0.2.1.1.2 ?_
    rcases zif_e h with ⟨hc2, h⟩ | ⟨hc2, h⟩
    · refine rn_icmp_ge_t (tgt := 51) hc2 zd_X9_close_0.2.1.2.1 rfl ?_
      cases h
      exact rn_sub (ls' := [(0, .ref a0), (1, .int x1)]) [0, 1] rfl hk
    · refine rn_icmp_ge_f (tgt := 51) hc2 zd_X9_close_0.2.1.2.1 rfl ?_
      refine rn_aload_n (q := 0) 0 rfl zd_X9_close_0.2.1.2.2 ?_
      refine rn_getR zf_X9_9 (Or.inr ⟨_, rfl⟩) k_a0 (zx_9_0 hW k_a0) zd_X9_close_0.2.2.1.1 ?_
      refine rn_iload_n (q := 2) 2 rfl zd_X9_close_0.2.2.1.2 ?_
      obtain ⟨hc3, h⟩ := zck_e h
      refine rn_iald (zw_9_0 hW k_a0) hc3 zd_X9_close_0.2.2.2.1 ?_
      refine rn_iconst (v := 2) zd_X9_close_0.2.2.2.2 rfl ?_
      rcases zif_e h with ⟨hc4, h⟩ | ⟨hc4, h⟩
      · refine rn_icmp_ne_f (tgt := 45) hc4 zd_X9_close_1.1.1.1.1 rfl ?_
        refine rn_aload_n (q := 0) 0 rfl zd_X9_close_1.1.1.1.2 ?_
        refine rn_getR zf_X9_9 (Or.inr ⟨_, rfl⟩) k_a0 (zx_9_0 hW k_a0) zd_X9_close_1.1.1.2.1 ?_
        refine rn_iload_n (q := 2) 2 rfl zd_X9_close_1.1.1.2.2 ?_
        refine rn_aload_n (q := 0) 0 rfl zd_X9_close_1.1.2.1.1 ?_
        refine rn_aload_n (q := 0) 0 rfl zd_X9_close_1.1.2.1.2 ?_
        refine rn_getR zf_X9_18 (Or.inr ⟨_, rfl⟩) k_a0 (zx_9_2 hW k_a0) zd_X9_close_1.1.2.2.1 ?_
        refine rn_iload_n (q := 2) 2 rfl zd_X9_close_1.1.2.2.2 ?_
        obtain ⟨hc5, h⟩ := zck_e h
        refine rn_lald (zw_9_2 hW k_a0) hc5 zd_X9_close_1.2.1.1.1 ?_
        obtain ⟨r6, h7, h⟩ := zbd_e h
        refine rn_callVi (As := [.long (L (R a0 2) (ztn x2))]) (rest := [.int x2, .ref (R a0 0)]) zl_X9_73 zm_X9_wordOrName ⟨by decide, by decide⟩ (ci := 9) rfl rfl (by decide) k_a0 rfl rfl (Nat.le_of_ble_eq_true rfl) zd_X9_close_1.2.1.1.2 (ok_X9_wordOrName hW k_a0 h7) ?_
        obtain ⟨hc8, h⟩ := zck_e h
        obtain ⟨M9, hM9, h⟩ := zlt_e h
        refine rn_iast hM9 (zw_9_0 hW k_a0) hc8 zd_X9_close_1.2.1.2.1 ?_
        refine rn_iinc (v := (x2 + 1)) (ls' := [(2, .int (x2 + 1)), (0, .ref a0), (1, .int x1)]) 2 rfl rfl (by decide) rfl zd_X9_close_1.2.1.2.2 ?_
        refine rn_goto (tgt := 2) zd_X9_close_1.2.2.1.1 rfl ?_
        cases h
        exact rn_sub (ls' := [(0, .ref a0), (1, .int x1), (2, .int (x2 + 1))]) [1, 2, 0] rfl hk
      · refine rn_icmp_ne_t (tgt := 45) hc4 zd_X9_close_1.1.1.1.1 rfl ?_
        refine rn_iinc (v := (x2 + 1)) (ls' := [(2, .int (x2 + 1)), (0, .ref a0), (1, .int x1)]) 2 rfl rfl (by decide) rfl zd_X9_close_1.2.1.2.2 ?_
        refine rn_goto (tgt := 2) zd_X9_close_1.2.2.1.1 rfl ?_
        cases h
        exact rn_sub (ls' := [(0, .ref a0), (1, .int x1), (2, .int (x2 + 1))]) [1, 2, 0] rfl hk
def f_X9_close (R : zR) (M : zM) (L : zL) (a0 : Nat) (x1 : Int32) : Option (zM) :=
  zbd (zloop zN (fun v => b_X9_close_2 R v.2 L a0 x1 v.1) ((0 : Int32), M)) fun e10 =>
  if (e10 a0 4) < 0 then (
    some e10
  ) else (
    if (e10 a0 4) < (402 : Int32) then (
      zck (zin (e10 a0 4) 402) <|
      zlt (zup e10 (R a0 0) (ztn (e10 a0 4)) (0 : Int32)) fun M14 =>
      zck (zin (M14 a0 4) 402) <|
      zlt (zup M14 (R a0 1) (ztn (M14 a0 4)) x1) fun M16 =>
      some M16
    ) else (
      some e10
    )
  )
set_option maxRecDepth 4000 in
theorem ok_X9_close {G : zG} {K : zK} {R : zR} {M : zM} {L : zL} (hW : zWT R K) {a0 : Nat} {x1 : Int32} (k_a0 : K[a0]? = some (9, 6)) {M' : zM} (h : f_X9_close R M L a0 x1 = some M') : Rm G mt_X9_close [.ref a0, .int x1] (M, L, R, K) none (M', L, R, K) := by
  refine rm_rn rfl rfl (Nat.le_of_ble_eq_true rfl) ?_
  show Rn G mt_X9_close 0 [(0, .ref a0), (1, .int x1)] [] (M, L, R, K) none (M', L, R, K)
  unfold f_X9_close at h
  refine rn_iconst (v := 0) zd_X9_close_0.1.1.1.1 rfl ?_
  refine rn_istore_n (q := 2) (ls' := [(2, .int (0 : Int32)), (0, .ref a0), (1, .int x1)]) (by decide) rfl zd_X9_close_0.1.1.1.2 ?_
  obtain ⟨e10, he10, h⟩ := zbd_e h
  refine rn_sub (ls' := [(0, .ref a0), (1, .int x1), (2, .int (0 : Int32))]) [1, 2, 0] rfl (zloop_ok (P := P_X9_close_2 G K R L a0 x1 none (M', L, R, K)) (Q := Q_X9_close_2 G K R L a0 x1 none (M', L, R, K)) (fun v x hx hq => ok_b_X9_close_2 hW k_a0 hx hq) _ _ _ he10 ?_)
  show Rn G mt_X9_close 51 [(0, .ref a0), (1, .int x1)] [] (e10, L, R, K) none (M', L, R, K)
  refine rn_aload_n (q := 0) 0 rfl zd_X9_close_1.2.2.1.2 ?_
  refine rn_getI zf_X9_41 (Or.inl rfl) k_a0 zd_X9_close_1.2.2.2.1 ?_
  rcases zif_e h with ⟨hc11, h⟩ | ⟨hc11, h⟩
  · refine rn_if_lt_t (tgt := 70) hc11 zd_X9_close_1.2.2.2.2 rfl ?_
    cases h
    exact rn_vret zd_X9_close_2.1.2.2.1 rfl
  · refine rn_if_lt_f (tgt := 70) hc11 zd_X9_close_1.2.2.2.2 rfl ?_
    refine rn_aload_n (q := 0) 0 rfl zd_X9_close_2.1.1.1.1 ?_
    refine rn_getI zf_X9_41 (Or.inl rfl) k_a0 zd_X9_close_2.1.1.1.2 ?_
    refine rn_aload_n (q := 0) 0 rfl zd_X9_close_2.1.1.2.1 ?_
    refine rn_getR zf_X9_9 (Or.inr ⟨_, rfl⟩) k_a0 (zx_9_0 hW k_a0) zd_X9_close_2.1.1.2.2 ?_
    refine rn_alen (v := 402) (zw_9_0 hW k_a0) (Or.inl rfl) rfl zd_X9_close_2.1.2.1.1 ?_
    rcases zif_e h with ⟨hc12, h⟩ | ⟨hc12, h⟩
    · refine rn_icmp_lt_t (tgt := 71) hc12 zd_X9_close_2.1.2.1.2 rfl ?_
      refine rn_aload_n (q := 0) 0 rfl zd_X9_close_2.1.2.2.2 ?_
      refine rn_getR zf_X9_9 (Or.inr ⟨_, rfl⟩) k_a0 (zx_9_0 hW k_a0) zd_X9_close_2.2.1.1.1 ?_
      refine rn_aload_n (q := 0) 0 rfl zd_X9_close_2.2.1.1.2 ?_
      refine rn_getI zf_X9_41 (Or.inl rfl) k_a0 zd_X9_close_2.2.1.2.1 ?_
      refine rn_iconst (v := 0) zd_X9_close_2.2.1.2.2 rfl ?_
      obtain ⟨hc13, h⟩ := zck_e h
      obtain ⟨M14, hM14, h⟩ := zlt_e h
      refine rn_iast hM14 (zw_9_0 hW k_a0) hc13 zd_X9_close_2.2.2.1.1 ?_
      refine rn_aload_n (q := 0) 0 rfl zd_X9_close_2.2.2.1.2 ?_
      refine rn_getR zf_X9_15 (Or.inr ⟨_, rfl⟩) k_a0 (zx_9_1 hW k_a0) zd_X9_close_2.2.2.2.1 ?_
      refine rn_aload_n (q := 0) 0 rfl zd_X9_close_2.2.2.2.2 ?_
      refine rn_getI zf_X9_41 (Or.inl rfl) k_a0 zd_X9_close_3.1.1 ?_
      refine rn_iload_n (q := 1) 1 rfl zd_X9_close_3.1.2 ?_
      obtain ⟨hc15, h⟩ := zck_e h
      obtain ⟨M16, hM16, h⟩ := zlt_e h
      refine rn_iast hM16 (zw_9_1 hW k_a0) hc15 zd_X9_close_3.2.1 ?_
      cases h
      exact rn_vret zd_X9_close_3.2.2 rfl
    · refine rn_icmp_lt_f (tgt := 71) hc12 zd_X9_close_2.1.2.1.2 rfl ?_
      cases h
      exact rn_vret zd_X9_close_2.1.2.2.1 rfl
def j_X9_grow_98 (R : zR) (M : zM) (L : zL) (b0 : Nat) (s1 : Int32) (u2 : Int64) : Option (zM × zL) :=
  zck (zin s1 402) <|
  zlt (zupL L b0 (ztn s1) u2) fun L9 =>
  some (M, L9)
set_option maxRecDepth 4000 in
theorem ok_j_X9_grow_98 {G : zG} {K : zK} {R : zR} {M : zM} {L : zL} (hW : zWT R K) {b0 : Nat} {s1 : Int32} {u2 : Int64} (k_b0 : K[b0]? = some (23, 402)) {M' : zM} {L' : zL} (h : j_X9_grow_98 R M L b0 s1 u2 = some (M', L')) : Rn G mt_X9_grow 98 [] [.long u2, .int s1, .ref b0] (M, L, R, K) none (M', L', R, K) := by
  unfold j_X9_grow_98 at h
  obtain ⟨hc8, h⟩ := zck_e h
  obtain ⟨L9, hL9, h⟩ := zlt_e h
  refine rn_last hL9 k_b0 hc8 zd_X9_grow_3.2.2.2.1 ?_
  cases h
  exact rn_vret zd_X9_grow_3.2.2.2.2 rfl
def j_X9_grow_46 (R : zR) (M : zM) (L : zL) (a0 : Nat) (x1 : Int32) (x2 : Int32) (x3 : Int32) (s0 : Int32) (s1 : Int32) : Option (zM × zL) :=
  if s0 ≤ s1 then (
    if x1 = (2 : Int32) then (
      zck (zin x3 402) <|
      zbd (f_X9_spelled (L (R a0 2) (ztn x3)) x2) fun r11 =>
      j_X9_grow_98 R M L (R a0 2) x3 r11
    ) else (
      zck (zin x3 402) <|
      j_X9_grow_98 R M L (R a0 2) x3 (((10 : Int64) * (L (R a0 2) (ztn x3))) + (x2 - (48 : Int32)).toInt64)
    )
  ) else (
    zck (zin x3 402) <|
    zlt (zup M (R a0 0) (ztn x3) (1 : Int32)) fun M14 =>
    some (M14, L)
  )
set_option maxRecDepth 4000 in
theorem ok_j_X9_grow_46 {G : zG} {K : zK} {R : zR} {M : zM} {L : zL} (hW : zWT R K) {a0 : Nat} {x1 : Int32} {x2 : Int32} {x3 : Int32} {s0 : Int32} {s1 : Int32} (k_a0 : K[a0]? = some (9, 6)) {M' : zM} {L' : zL} (h : j_X9_grow_46 R M L a0 x1 x2 x3 s0 s1 = some (M', L')) : Rn G mt_X9_grow 46 [(0, .ref a0), (1, .int x1), (2, .int x2), (3, .int x3)] [.int s1, .int s0] (M, L, R, K) none (M', L', R, K) := by
  unfold j_X9_grow_46 at h
  rcases zif_e h with ⟨hc5, h⟩ | ⟨hc5, h⟩
  · refine rn_icmp_le_t (tgt := 59) hc5 zd_X9_grow_1.2.1.2.2 rfl ?_
    refine rn_aload_n (q := 0) 0 rfl zd_X9_grow_2.1.1.2.1 ?_
    refine rn_getR zf_X9_18 (Or.inr ⟨_, rfl⟩) k_a0 (zx_9_2 hW k_a0) zd_X9_grow_2.1.1.2.2 ?_
    refine rn_iload_n (q := 3) 3 rfl zd_X9_grow_2.1.2.1.1 ?_
    refine rn_iload_n (q := 1) 1 rfl zd_X9_grow_2.1.2.1.2 ?_
    refine rn_iconst (v := 2) zd_X9_grow_2.1.2.2.1 rfl ?_
    rcases zif_e h with ⟨hc6, h⟩ | ⟨hc6, h⟩
    · refine rn_icmp_ne_f (tgt := 82) hc6 zd_X9_grow_2.1.2.2.2 rfl ?_
      refine rn_aload_n (q := 0) 0 rfl zd_X9_grow_2.2.1.1.1 ?_
      refine rn_getR zf_X9_18 (Or.inr ⟨_, rfl⟩) k_a0 (zx_9_2 hW k_a0) zd_X9_grow_2.2.1.1.2 ?_
      refine rn_iload_n (q := 3) 3 rfl zd_X9_grow_2.2.1.2.1 ?_
      obtain ⟨hc10, h⟩ := zck_e h
      refine rn_lald (zw_9_2 hW k_a0) hc10 zd_X9_grow_2.2.1.2.2 ?_
      refine rn_iload_n (q := 2) 2 rfl zd_X9_grow_2.2.2.1.1 ?_
      obtain ⟨r11, h12, h⟩ := zbd_e h
      refine rn_callSl (As := [.long (L (R a0 2) (ztn x3)), .int x2]) (rest := [.int x3, .ref (R a0 2)]) zl_X9_37 zm_X9_spelled ⟨by decide, by decide⟩ rfl rfl (Nat.le_of_ble_eq_true rfl) zd_X9_grow_2.2.2.1.2 (ok_X9_spelled hW h12) ?_
      refine rn_goto (tgt := 98) zd_X9_grow_2.2.2.2.1 rfl ?_
      exact rn_sub (ls' := []) [] rfl (ok_j_X9_grow_98 hW (zw_9_2 hW k_a0) h)
    · refine rn_icmp_ne_t (tgt := 82) hc6 zd_X9_grow_2.1.2.2.2 rfl ?_
      refine rn_ldc2 (v := 10) zk_X9_71 zd_X9_grow_2.2.2.2.2 ?_
      refine rn_aload_n (q := 0) 0 rfl zd_X9_grow_3.1.1.1 ?_
      refine rn_getR zf_X9_18 (Or.inr ⟨_, rfl⟩) k_a0 (zx_9_2 hW k_a0) zd_X9_grow_3.1.1.2.1 ?_
      refine rn_iload_n (q := 3) 3 rfl zd_X9_grow_3.1.1.2.2 ?_
      obtain ⟨hc7, h⟩ := zck_e h
      refine rn_lald (zw_9_2 hW k_a0) hc7 zd_X9_grow_3.1.2.1 ?_
      refine rn_lmul zd_X9_grow_3.1.2.2.1 ?_
      refine rn_iload_n (q := 2) 2 rfl zd_X9_grow_3.1.2.2.2 ?_
      refine rn_bipush (v := 48) zd_X9_grow_3.2.1.1 rfl ?_
      refine rn_isub zd_X9_grow_3.2.1.2.1 ?_
      refine rn_i2l zd_X9_grow_3.2.1.2.2 ?_
      refine rn_ladd zd_X9_grow_3.2.2.1 ?_
      exact rn_sub (ls' := []) [] rfl (ok_j_X9_grow_98 hW (zw_9_2 hW k_a0) h)
  · refine rn_icmp_le_f (tgt := 59) hc5 zd_X9_grow_1.2.1.2.2 rfl ?_
    refine rn_aload_n (q := 0) 0 rfl zd_X9_grow_1.2.2.1.1 ?_
    refine rn_getR zf_X9_9 (Or.inr ⟨_, rfl⟩) k_a0 (zx_9_0 hW k_a0) zd_X9_grow_1.2.2.1.2 ?_
    refine rn_iload_n (q := 3) 3 rfl zd_X9_grow_1.2.2.2.1 ?_
    refine rn_iconst (v := 1) zd_X9_grow_1.2.2.2.2 rfl ?_
    obtain ⟨hc13, h⟩ := zck_e h
    obtain ⟨M14, hM14, h⟩ := zlt_e h
    refine rn_iast hM14 (zw_9_0 hW k_a0) hc13 zd_X9_grow_2.1.1.1.1 ?_
    refine rn_goto (tgt := 99) zd_X9_grow_2.1.1.1.2 rfl ?_
    cases h
    exact rn_vret zd_X9_grow_3.2.2.2.2 rfl
def f_X9_grow (R : zR) (M : zM) (L : zL) (a0 : Nat) (x1 : Int32) (x2 : Int32) : Option (zM × zL) :=
  if ((M a0 4) - (1 : Int32)) < 0 then (
    some (M, L)
  ) else (
    if ((M a0 4) - (1 : Int32)) < (402 : Int32) then (
      zlt (zup M a0 5 ((M a0 5) + (1 : Int32))) fun M3 =>
      if x1 = (2 : Int32) then (
        j_X9_grow_46 R M3 L a0 x1 x2 ((M a0 4) - (1 : Int32)) (M3 a0 5) (8 : Int32)
      ) else (
        j_X9_grow_46 R M3 L a0 x1 x2 ((M a0 4) - (1 : Int32)) (M3 a0 5) (4 : Int32)
      )
    ) else (
      some (M, L)
    )
  )
set_option maxRecDepth 4000 in
theorem ok_X9_grow {G : zG} {K : zK} {R : zR} {M : zM} {L : zL} (hW : zWT R K) {a0 : Nat} {x1 : Int32} {x2 : Int32} (k_a0 : K[a0]? = some (9, 6)) {M' : zM} {L' : zL} (h : f_X9_grow R M L a0 x1 x2 = some (M', L')) : Rm G mt_X9_grow [.ref a0, .int x1, .int x2] (M, L, R, K) none (M', L', R, K) := by
  refine rm_rn rfl rfl (Nat.le_of_ble_eq_true rfl) ?_
  show Rn G mt_X9_grow 0 [(0, .ref a0), (1, .int x1), (2, .int x2)] [] (M, L, R, K) none (M', L', R, K)
  unfold f_X9_grow at h
  refine rn_aload_n (q := 0) 0 rfl zd_X9_grow_0.1.1.1.1 ?_
  refine rn_getI zf_X9_41 (Or.inl rfl) k_a0 zd_X9_grow_0.1.1.1.2 ?_
  refine rn_iconst (v := 1) zd_X9_grow_0.1.1.2.1 rfl ?_
  refine rn_isub zd_X9_grow_0.1.1.2.2 ?_
  refine rn_istore_n (q := 3) (ls' := [(3, .int ((M a0 4) - (1 : Int32))), (0, .ref a0), (1, .int x1), (2, .int x2)]) (by decide) rfl zd_X9_grow_0.1.2.1.1 ?_
  refine rn_iload_n (q := 3) 0 rfl zd_X9_grow_0.1.2.1.2 ?_
  rcases zif_e h with ⟨hc1, h⟩ | ⟨hc1, h⟩
  · refine rn_if_lt_t (tgt := 20) hc1 zd_X9_grow_0.1.2.2.1 rfl ?_
    cases h
    exact rn_vret zd_X9_grow_0.2.2.1.1 rfl
  · refine rn_if_lt_f (tgt := 20) hc1 zd_X9_grow_0.1.2.2.1 rfl ?_
    refine rn_iload_n (q := 3) 0 rfl zd_X9_grow_0.1.2.2.2 ?_
    refine rn_aload_n (q := 0) 1 rfl zd_X9_grow_0.2.1.1.1 ?_
    refine rn_getR zf_X9_9 (Or.inr ⟨_, rfl⟩) k_a0 (zx_9_0 hW k_a0) zd_X9_grow_0.2.1.1.2 ?_
    refine rn_alen (v := 402) (zw_9_0 hW k_a0) (Or.inl rfl) rfl zd_X9_grow_0.2.1.2.1 ?_
    rcases zif_e h with ⟨hc2, h⟩ | ⟨hc2, h⟩
    · refine rn_icmp_lt_t (tgt := 21) hc2 zd_X9_grow_0.2.1.2.2 rfl ?_
      refine rn_aload_n (q := 0) 1 rfl zd_X9_grow_0.2.2.1.2 ?_
      refine rn_dup zd_X9_grow_0.2.2.2.1 rfl ?_
      refine rn_getI zf_X9_68 (Or.inl rfl) k_a0 zd_X9_grow_0.2.2.2.2 ?_
      refine rn_iconst (v := 1) zd_X9_grow_1.1.1.1.1 rfl ?_
      refine rn_iadd zd_X9_grow_1.1.1.1.2 ?_
      obtain ⟨M3, hM3, h⟩ := zlt_e h
      refine rn_putI hM3 zf_X9_68 k_a0 zd_X9_grow_1.1.1.2.1 ?_
      refine rn_aload_n (q := 0) 1 rfl zd_X9_grow_1.1.1.2.2 ?_
      refine rn_getI zf_X9_68 (Or.inl rfl) k_a0 zd_X9_grow_1.1.2.1.1 ?_
      refine rn_iload_n (q := 1) 2 rfl zd_X9_grow_1.1.2.1.2 ?_
      refine rn_iconst (v := 2) zd_X9_grow_1.1.2.2.1 rfl ?_
      rcases zif_e h with ⟨hc4, h⟩ | ⟨hc4, h⟩
      · refine rn_icmp_ne_f (tgt := 45) hc4 zd_X9_grow_1.1.2.2.2 rfl ?_
        refine rn_bipush (v := 8) zd_X9_grow_1.2.1.1.1 rfl ?_
        refine rn_goto (tgt := 46) zd_X9_grow_1.2.1.1.2 rfl ?_
        exact rn_sub (ls' := [(0, .ref a0), (1, .int x1), (2, .int x2), (3, .int ((M a0 4) - (1 : Int32)))]) [1, 2, 3, 0] rfl (ok_j_X9_grow_46 hW k_a0 h)
      · refine rn_icmp_ne_t (tgt := 45) hc4 zd_X9_grow_1.1.2.2.2 rfl ?_
        refine rn_iconst (v := 4) zd_X9_grow_1.2.1.2.1 rfl ?_
        exact rn_sub (ls' := [(0, .ref a0), (1, .int x1), (2, .int x2), (3, .int ((M a0 4) - (1 : Int32)))]) [1, 2, 3, 0] rfl (ok_j_X9_grow_46 hW k_a0 h)
    · refine rn_icmp_lt_f (tgt := 21) hc2 zd_X9_grow_0.2.1.2.2 rfl ?_
      cases h
      exact rn_vret zd_X9_grow_0.2.2.1.1 rfl
def j_X9_kindOf_28 (x0 : Int32) : Option (Int32) :=
  if x0 = 9 then (
    some (4 : Int32)
  ) else (
    if x0 = 10 then (
      some (4 : Int32)
    ) else (
      if x0 = 11 then (
        some (1 : Int32)
      ) else (
        if x0 = 12 then (
          some (1 : Int32)
        ) else (
          if x0 = 13 then (
            some (4 : Int32)
          ) else (
            if x0 = 14 then (
              some (1 : Int32)
            ) else (
              if x0 = 15 then (
                some (1 : Int32)
              ) else (
                if x0 = 16 then (
                  some (1 : Int32)
                ) else (
                  if x0 = 17 then (
                    some (1 : Int32)
                  ) else (
                    if x0 = 18 then (
                      some (1 : Int32)
                    ) else (
                      if x0 = 19 then (
                        some (1 : Int32)
                      ) else (
                        if x0 = 20 then (
                          some (1 : Int32)
                        ) else (
                          if x0 = 21 then (
                            some (1 : Int32)
                          ) else (
                            if x0 = 22 then (
                              some (1 : Int32)
                            ) else (
                              if x0 = 23 then (
                                some (1 : Int32)
                              ) else (
                                if x0 = 24 then (
                                  some (1 : Int32)
                                ) else (
                                  if x0 = 25 then (
                                    some (1 : Int32)
                                  ) else (
                                    if x0 = 26 then (
                                      some (1 : Int32)
                                    ) else (
                                      if x0 = 27 then (
                                        some (1 : Int32)
                                      ) else (
                                        if x0 = 28 then (
                                          some (1 : Int32)
                                        ) else (
                                          if x0 = 29 then (
                                            some (1 : Int32)
                                          ) else (
                                            if x0 = 30 then (
                                              some (1 : Int32)
                                            ) else (
                                              if x0 = 31 then (
                                                some (1 : Int32)
                                              ) else (
                                                if x0 = 32 then (
                                                  some (4 : Int32)
                                                ) else (
                                                  if x0 = 33 then (
                                                    some (1 : Int32)
                                                  ) else (
                                                    if x0 = 34 then (
                                                      some (1 : Int32)
                                                    ) else (
                                                      if x0 = 35 then (
                                                        some (1 : Int32)
                                                      ) else (
                                                        if x0 = 36 then (
                                                          some (1 : Int32)
                                                        ) else (
                                                          if x0 = 37 then (
                                                            some (1 : Int32)
                                                          ) else (
                                                            if x0 = 38 then (
                                                              some (1 : Int32)
                                                            ) else (
                                                              if x0 = 39 then (
                                                                some (1 : Int32)
                                                              ) else (
                                                                if x0 = 40 then (
                                                                  some x0
                                                                ) else (
                                                                  if x0 = 41 then (
                                                                    some x0
                                                                  ) else (
                                                                    if x0 = 42 then (
                                                                      some x0
                                                                    ) else (
                                                                      if x0 = 43 then (
                                                                        some x0
                                                                      ) else (
                                                                        if x0 = 44 then (
                                                                          some (1 : Int32)
                                                                        ) else (
                                                                          if x0 = 45 then (
                                                                            some x0
                                                                          ) else (
                                                                            if x0 = 46 then (
                                                                              some (1 : Int32)
                                                                            ) else (
                                                                              if x0 = 47 then (
                                                                                some x0
                                                                              ) else (
                                                                                if x0 = 48 then (
                                                                                  some (1 : Int32)
                                                                                ) else (
                                                                                  if x0 = 49 then (
                                                                                    some (1 : Int32)
                                                                                  ) else (
                                                                                    if x0 = 50 then (
                                                                                      some (1 : Int32)
                                                                                    ) else (
                                                                                      if x0 = 51 then (
                                                                                        some (1 : Int32)
                                                                                      ) else (
                                                                                        if x0 = 52 then (
                                                                                          some (1 : Int32)
                                                                                        ) else (
                                                                                          if x0 = 53 then (
                                                                                            some (1 : Int32)
                                                                                          ) else (
                                                                                            if x0 = 54 then (
                                                                                              some (1 : Int32)
                                                                                            ) else (
                                                                                              if x0 = 55 then (
                                                                                                some (1 : Int32)
                                                                                              ) else (
                                                                                                if x0 = 56 then (
                                                                                                  some (1 : Int32)
                                                                                                ) else (
                                                                                                  if x0 = 57 then (
                                                                                                    some (1 : Int32)
                                                                                                  ) else (
                                                                                                    if x0 = 58 then (
                                                                                                      some (1 : Int32)
                                                                                                    ) else (
                                                                                                      if x0 = 59 then (
                                                                                                        some x0
                                                                                                      ) else (
                                                                                                        if x0 = 60 then (
                                                                                                          some x0
                                                                                                        ) else (
                                                                                                          if x0 = 61 then (
                                                                                                            some x0
                                                                                                          ) else (
                                                                                                            some (1 : Int32)
                                                                                                          )
                                                                                                        )
                                                                                                      )
                                                                                                    )
                                                                                                  )
                                                                                                )
                                                                                              )
                                                                                            )
                                                                                          )
                                                                                        )
                                                                                      )
                                                                                    )
                                                                                  )
                                                                                )
                                                                              )
                                                                            )
                                                                          )
                                                                        )
                                                                      )
                                                                    )
                                                                  )
                                                                )
                                                              )
                                                            )
                                                          )
                                                        )
                                                      )
                                                    )
                                                  )
                                                )
                                              )
                                            )
                                          )
                                        )
                                      )
                                    )
                                  )
                                )
                              )
                            )
                          )
                        )
                      )
                    )
                  )
                )
              )
            )
          )
        )
      )
    )
  )
set_option maxRecDepth 4000 in
theorem ok_j_X9_kindOf_28 {G : zG} {K : zK} {R : zR} {M : zM} {L : zL} (hW : zWT R K) {x0 : Int32} {r' : Int32} (h : j_X9_kindOf_28 x0 = some r') : Rn G mt_X9_kindOf 28 [(0, .int x0)] [] (M, L, R, K) (some (.int r')) (M, L, R, K) := by
  unfold j_X9_kindOf_28 at h
  refine rn_iload_n (q := 0) 0 rfl zd_X9_kindOf_1.1.1.1 ?_
  rcases zif_e h with ⟨hc3, h⟩ | ⟨hc3, h⟩
  · refine rn_tblIn (v := 9) (tgt := 256) zd_X9_kindOf_1.1.1.2 (by rw [hc3]; rfl) (by decide) (by decide) rfl rfl ?_
    refine rn_iconst (v := 4) zd_X9_kindOf_1.1.2.1 rfl ?_
    cases h
    exact rn_iret zd_X9_kindOf_1.1.2.2 rfl
  · rcases zif_e h with ⟨hc4, h⟩ | ⟨hc4, h⟩
    · refine rn_tblIn (v := 10) (tgt := 256) zd_X9_kindOf_1.1.1.2 (by rw [hc4]; rfl) (by decide) (by decide) rfl rfl ?_
      refine rn_iconst (v := 4) zd_X9_kindOf_1.1.2.1 rfl ?_
      cases h
      exact rn_iret zd_X9_kindOf_1.1.2.2 rfl
    · rcases zif_e h with ⟨hc5, h⟩ | ⟨hc5, h⟩
      · refine rn_tblIn (v := 11) (tgt := 260) zd_X9_kindOf_1.1.1.2 (by rw [hc5]; rfl) (by decide) (by decide) rfl rfl ?_
        refine rn_iconst (v := 1) zd_X9_kindOf_1.2.2.1 rfl ?_
        cases h
        exact rn_iret zd_X9_kindOf_1.2.2.2 rfl
      · rcases zif_e h with ⟨hc6, h⟩ | ⟨hc6, h⟩
        · refine rn_tblIn (v := 12) (tgt := 260) zd_X9_kindOf_1.1.1.2 (by rw [hc6]; rfl) (by decide) (by decide) rfl rfl ?_
          refine rn_iconst (v := 1) zd_X9_kindOf_1.2.2.1 rfl ?_
          cases h
          exact rn_iret zd_X9_kindOf_1.2.2.2 rfl
        · rcases zif_e h with ⟨hc7, h⟩ | ⟨hc7, h⟩
          · refine rn_tblIn (v := 13) (tgt := 256) zd_X9_kindOf_1.1.1.2 (by rw [hc7]; rfl) (by decide) (by decide) rfl rfl ?_
            refine rn_iconst (v := 4) zd_X9_kindOf_1.1.2.1 rfl ?_
            cases h
            exact rn_iret zd_X9_kindOf_1.1.2.2 rfl
          · rcases zif_e h with ⟨hc8, h⟩ | ⟨hc8, h⟩
            · refine rn_tblIn (v := 14) (tgt := 260) zd_X9_kindOf_1.1.1.2 (by rw [hc8]; rfl) (by decide) (by decide) rfl rfl ?_
              refine rn_iconst (v := 1) zd_X9_kindOf_1.2.2.1 rfl ?_
              cases h
              exact rn_iret zd_X9_kindOf_1.2.2.2 rfl
            · rcases zif_e h with ⟨hc9, h⟩ | ⟨hc9, h⟩
              · refine rn_tblIn (v := 15) (tgt := 260) zd_X9_kindOf_1.1.1.2 (by rw [hc9]; rfl) (by decide) (by decide) rfl rfl ?_
                refine rn_iconst (v := 1) zd_X9_kindOf_1.2.2.1 rfl ?_
                cases h
                exact rn_iret zd_X9_kindOf_1.2.2.2 rfl
              · rcases zif_e h with ⟨hc10, h⟩ | ⟨hc10, h⟩
                · refine rn_tblIn (v := 16) (tgt := 260) zd_X9_kindOf_1.1.1.2 (by rw [hc10]; rfl) (by decide) (by decide) rfl rfl ?_
                  refine rn_iconst (v := 1) zd_X9_kindOf_1.2.2.1 rfl ?_
                  cases h
                  exact rn_iret zd_X9_kindOf_1.2.2.2 rfl
                · rcases zif_e h with ⟨hc11, h⟩ | ⟨hc11, h⟩
                  · refine rn_tblIn (v := 17) (tgt := 260) zd_X9_kindOf_1.1.1.2 (by rw [hc11]; rfl) (by decide) (by decide) rfl rfl ?_
                    refine rn_iconst (v := 1) zd_X9_kindOf_1.2.2.1 rfl ?_
                    cases h
                    exact rn_iret zd_X9_kindOf_1.2.2.2 rfl
                  · rcases zif_e h with ⟨hc12, h⟩ | ⟨hc12, h⟩
                    · refine rn_tblIn (v := 18) (tgt := 260) zd_X9_kindOf_1.1.1.2 (by rw [hc12]; rfl) (by decide) (by decide) rfl rfl ?_
                      refine rn_iconst (v := 1) zd_X9_kindOf_1.2.2.1 rfl ?_
                      cases h
                      exact rn_iret zd_X9_kindOf_1.2.2.2 rfl
                    · rcases zif_e h with ⟨hc13, h⟩ | ⟨hc13, h⟩
                      · refine rn_tblIn (v := 19) (tgt := 260) zd_X9_kindOf_1.1.1.2 (by rw [hc13]; rfl) (by decide) (by decide) rfl rfl ?_
                        refine rn_iconst (v := 1) zd_X9_kindOf_1.2.2.1 rfl ?_
                        cases h
                        exact rn_iret zd_X9_kindOf_1.2.2.2 rfl
                      · rcases zif_e h with ⟨hc14, h⟩ | ⟨hc14, h⟩
                        · refine rn_tblIn (v := 20) (tgt := 260) zd_X9_kindOf_1.1.1.2 (by rw [hc14]; rfl) (by decide) (by decide) rfl rfl ?_
                          refine rn_iconst (v := 1) zd_X9_kindOf_1.2.2.1 rfl ?_
                          cases h
                          exact rn_iret zd_X9_kindOf_1.2.2.2 rfl
                        · rcases zif_e h with ⟨hc15, h⟩ | ⟨hc15, h⟩
                          · refine rn_tblIn (v := 21) (tgt := 260) zd_X9_kindOf_1.1.1.2 (by rw [hc15]; rfl) (by decide) (by decide) rfl rfl ?_
                            refine rn_iconst (v := 1) zd_X9_kindOf_1.2.2.1 rfl ?_
                            cases h
                            exact rn_iret zd_X9_kindOf_1.2.2.2 rfl
                          · rcases zif_e h with ⟨hc16, h⟩ | ⟨hc16, h⟩
                            · refine rn_tblIn (v := 22) (tgt := 260) zd_X9_kindOf_1.1.1.2 (by rw [hc16]; rfl) (by decide) (by decide) rfl rfl ?_
                              refine rn_iconst (v := 1) zd_X9_kindOf_1.2.2.1 rfl ?_
                              cases h
                              exact rn_iret zd_X9_kindOf_1.2.2.2 rfl
                            · rcases zif_e h with ⟨hc17, h⟩ | ⟨hc17, h⟩
                              · refine rn_tblIn (v := 23) (tgt := 260) zd_X9_kindOf_1.1.1.2 (by rw [hc17]; rfl) (by decide) (by decide) rfl rfl ?_
                                refine rn_iconst (v := 1) zd_X9_kindOf_1.2.2.1 rfl ?_
                                cases h
                                exact rn_iret zd_X9_kindOf_1.2.2.2 rfl
                              · rcases zif_e h with ⟨hc18, h⟩ | ⟨hc18, h⟩
                                · refine rn_tblIn (v := 24) (tgt := 260) zd_X9_kindOf_1.1.1.2 (by rw [hc18]; rfl) (by decide) (by decide) rfl rfl ?_
                                  refine rn_iconst (v := 1) zd_X9_kindOf_1.2.2.1 rfl ?_
                                  cases h
                                  exact rn_iret zd_X9_kindOf_1.2.2.2 rfl
                                · rcases zif_e h with ⟨hc19, h⟩ | ⟨hc19, h⟩
                                  · refine rn_tblIn (v := 25) (tgt := 260) zd_X9_kindOf_1.1.1.2 (by rw [hc19]; rfl) (by decide) (by decide) rfl rfl ?_
                                    refine rn_iconst (v := 1) zd_X9_kindOf_1.2.2.1 rfl ?_
                                    cases h
                                    exact rn_iret zd_X9_kindOf_1.2.2.2 rfl
                                  · rcases zif_e h with ⟨hc20, h⟩ | ⟨hc20, h⟩
                                    · refine rn_tblIn (v := 26) (tgt := 260) zd_X9_kindOf_1.1.1.2 (by rw [hc20]; rfl) (by decide) (by decide) rfl rfl ?_
                                      refine rn_iconst (v := 1) zd_X9_kindOf_1.2.2.1 rfl ?_
                                      cases h
                                      exact rn_iret zd_X9_kindOf_1.2.2.2 rfl
                                    · rcases zif_e h with ⟨hc21, h⟩ | ⟨hc21, h⟩
                                      · refine rn_tblIn (v := 27) (tgt := 260) zd_X9_kindOf_1.1.1.2 (by rw [hc21]; rfl) (by decide) (by decide) rfl rfl ?_
                                        refine rn_iconst (v := 1) zd_X9_kindOf_1.2.2.1 rfl ?_
                                        cases h
                                        exact rn_iret zd_X9_kindOf_1.2.2.2 rfl
                                      · rcases zif_e h with ⟨hc22, h⟩ | ⟨hc22, h⟩
                                        · refine rn_tblIn (v := 28) (tgt := 260) zd_X9_kindOf_1.1.1.2 (by rw [hc22]; rfl) (by decide) (by decide) rfl rfl ?_
                                          refine rn_iconst (v := 1) zd_X9_kindOf_1.2.2.1 rfl ?_
                                          cases h
                                          exact rn_iret zd_X9_kindOf_1.2.2.2 rfl
                                        · rcases zif_e h with ⟨hc23, h⟩ | ⟨hc23, h⟩
                                          · refine rn_tblIn (v := 29) (tgt := 260) zd_X9_kindOf_1.1.1.2 (by rw [hc23]; rfl) (by decide) (by decide) rfl rfl ?_
                                            refine rn_iconst (v := 1) zd_X9_kindOf_1.2.2.1 rfl ?_
                                            cases h
                                            exact rn_iret zd_X9_kindOf_1.2.2.2 rfl
                                          · rcases zif_e h with ⟨hc24, h⟩ | ⟨hc24, h⟩
                                            · refine rn_tblIn (v := 30) (tgt := 260) zd_X9_kindOf_1.1.1.2 (by rw [hc24]; rfl) (by decide) (by decide) rfl rfl ?_
                                              refine rn_iconst (v := 1) zd_X9_kindOf_1.2.2.1 rfl ?_
                                              cases h
                                              exact rn_iret zd_X9_kindOf_1.2.2.2 rfl
                                            · rcases zif_e h with ⟨hc25, h⟩ | ⟨hc25, h⟩
                                              · refine rn_tblIn (v := 31) (tgt := 260) zd_X9_kindOf_1.1.1.2 (by rw [hc25]; rfl) (by decide) (by decide) rfl rfl ?_
                                                refine rn_iconst (v := 1) zd_X9_kindOf_1.2.2.1 rfl ?_
                                                cases h
                                                exact rn_iret zd_X9_kindOf_1.2.2.2 rfl
                                              · rcases zif_e h with ⟨hc26, h⟩ | ⟨hc26, h⟩
                                                · refine rn_tblIn (v := 32) (tgt := 256) zd_X9_kindOf_1.1.1.2 (by rw [hc26]; rfl) (by decide) (by decide) rfl rfl ?_
                                                  refine rn_iconst (v := 4) zd_X9_kindOf_1.1.2.1 rfl ?_
                                                  cases h
                                                  exact rn_iret zd_X9_kindOf_1.1.2.2 rfl
                                                · rcases zif_e h with ⟨hc27, h⟩ | ⟨hc27, h⟩
                                                  · refine rn_tblIn (v := 33) (tgt := 260) zd_X9_kindOf_1.1.1.2 (by rw [hc27]; rfl) (by decide) (by decide) rfl rfl ?_
                                                    refine rn_iconst (v := 1) zd_X9_kindOf_1.2.2.1 rfl ?_
                                                    cases h
                                                    exact rn_iret zd_X9_kindOf_1.2.2.2 rfl
                                                  · rcases zif_e h with ⟨hc28, h⟩ | ⟨hc28, h⟩
                                                    · refine rn_tblIn (v := 34) (tgt := 260) zd_X9_kindOf_1.1.1.2 (by rw [hc28]; rfl) (by decide) (by decide) rfl rfl ?_
                                                      refine rn_iconst (v := 1) zd_X9_kindOf_1.2.2.1 rfl ?_
                                                      cases h
                                                      exact rn_iret zd_X9_kindOf_1.2.2.2 rfl
                                                    · rcases zif_e h with ⟨hc29, h⟩ | ⟨hc29, h⟩
                                                      · refine rn_tblIn (v := 35) (tgt := 260) zd_X9_kindOf_1.1.1.2 (by rw [hc29]; rfl) (by decide) (by decide) rfl rfl ?_
                                                        refine rn_iconst (v := 1) zd_X9_kindOf_1.2.2.1 rfl ?_
                                                        cases h
                                                        exact rn_iret zd_X9_kindOf_1.2.2.2 rfl
                                                      · rcases zif_e h with ⟨hc30, h⟩ | ⟨hc30, h⟩
                                                        · refine rn_tblIn (v := 36) (tgt := 260) zd_X9_kindOf_1.1.1.2 (by rw [hc30]; rfl) (by decide) (by decide) rfl rfl ?_
                                                          refine rn_iconst (v := 1) zd_X9_kindOf_1.2.2.1 rfl ?_
                                                          cases h
                                                          exact rn_iret zd_X9_kindOf_1.2.2.2 rfl
                                                        · rcases zif_e h with ⟨hc31, h⟩ | ⟨hc31, h⟩
                                                          · refine rn_tblIn (v := 37) (tgt := 260) zd_X9_kindOf_1.1.1.2 (by rw [hc31]; rfl) (by decide) (by decide) rfl rfl ?_
                                                            refine rn_iconst (v := 1) zd_X9_kindOf_1.2.2.1 rfl ?_
                                                            cases h
                                                            exact rn_iret zd_X9_kindOf_1.2.2.2 rfl
                                                          · rcases zif_e h with ⟨hc32, h⟩ | ⟨hc32, h⟩
                                                            · refine rn_tblIn (v := 38) (tgt := 260) zd_X9_kindOf_1.1.1.2 (by rw [hc32]; rfl) (by decide) (by decide) rfl rfl ?_
                                                              refine rn_iconst (v := 1) zd_X9_kindOf_1.2.2.1 rfl ?_
                                                              cases h
                                                              exact rn_iret zd_X9_kindOf_1.2.2.2 rfl
                                                            · rcases zif_e h with ⟨hc33, h⟩ | ⟨hc33, h⟩
                                                              · refine rn_tblIn (v := 39) (tgt := 260) zd_X9_kindOf_1.1.1.2 (by rw [hc33]; rfl) (by decide) (by decide) rfl rfl ?_
                                                                refine rn_iconst (v := 1) zd_X9_kindOf_1.2.2.1 rfl ?_
                                                                cases h
                                                                exact rn_iret zd_X9_kindOf_1.2.2.2 rfl
                                                              · rcases zif_e h with ⟨hc34, h⟩ | ⟨hc34, h⟩
                                                                · refine rn_tblIn (v := 40) (tgt := 258) zd_X9_kindOf_1.1.1.2 (by rw [hc34]; rfl) (by decide) (by decide) rfl rfl ?_
                                                                  refine rn_iload_n (q := 0) 0 rfl zd_X9_kindOf_1.2.1.1 ?_
                                                                  cases h
                                                                  exact rn_iret zd_X9_kindOf_1.2.1.2 rfl
                                                                · rcases zif_e h with ⟨hc35, h⟩ | ⟨hc35, h⟩
                                                                  · refine rn_tblIn (v := 41) (tgt := 258) zd_X9_kindOf_1.1.1.2 (by rw [hc35]; rfl) (by decide) (by decide) rfl rfl ?_
                                                                    refine rn_iload_n (q := 0) 0 rfl zd_X9_kindOf_1.2.1.1 ?_
                                                                    cases h
                                                                    exact rn_iret zd_X9_kindOf_1.2.1.2 rfl
                                                                  · rcases zif_e h with ⟨hc36, h⟩ | ⟨hc36, h⟩
                                                                    · refine rn_tblIn (v := 42) (tgt := 258) zd_X9_kindOf_1.1.1.2 (by rw [hc36]; rfl) (by decide) (by decide) rfl rfl ?_
                                                                      refine rn_iload_n (q := 0) 0 rfl zd_X9_kindOf_1.2.1.1 ?_
                                                                      cases h
                                                                      exact rn_iret zd_X9_kindOf_1.2.1.2 rfl
                                                                    · rcases zif_e h with ⟨hc37, h⟩ | ⟨hc37, h⟩
                                                                      · refine rn_tblIn (v := 43) (tgt := 258) zd_X9_kindOf_1.1.1.2 (by rw [hc37]; rfl) (by decide) (by decide) rfl rfl ?_
                                                                        refine rn_iload_n (q := 0) 0 rfl zd_X9_kindOf_1.2.1.1 ?_
                                                                        cases h
                                                                        exact rn_iret zd_X9_kindOf_1.2.1.2 rfl
                                                                      · rcases zif_e h with ⟨hc38, h⟩ | ⟨hc38, h⟩
                                                                        · refine rn_tblIn (v := 44) (tgt := 260) zd_X9_kindOf_1.1.1.2 (by rw [hc38]; rfl) (by decide) (by decide) rfl rfl ?_
                                                                          refine rn_iconst (v := 1) zd_X9_kindOf_1.2.2.1 rfl ?_
                                                                          cases h
                                                                          exact rn_iret zd_X9_kindOf_1.2.2.2 rfl
                                                                        · rcases zif_e h with ⟨hc39, h⟩ | ⟨hc39, h⟩
                                                                          · refine rn_tblIn (v := 45) (tgt := 258) zd_X9_kindOf_1.1.1.2 (by rw [hc39]; rfl) (by decide) (by decide) rfl rfl ?_
                                                                            refine rn_iload_n (q := 0) 0 rfl zd_X9_kindOf_1.2.1.1 ?_
                                                                            cases h
                                                                            exact rn_iret zd_X9_kindOf_1.2.1.2 rfl
                                                                          · rcases zif_e h with ⟨hc40, h⟩ | ⟨hc40, h⟩
                                                                            · refine rn_tblIn (v := 46) (tgt := 260) zd_X9_kindOf_1.1.1.2 (by rw [hc40]; rfl) (by decide) (by decide) rfl rfl ?_
                                                                              refine rn_iconst (v := 1) zd_X9_kindOf_1.2.2.1 rfl ?_
                                                                              cases h
                                                                              exact rn_iret zd_X9_kindOf_1.2.2.2 rfl
                                                                            · rcases zif_e h with ⟨hc41, h⟩ | ⟨hc41, h⟩
                                                                              · refine rn_tblIn (v := 47) (tgt := 258) zd_X9_kindOf_1.1.1.2 (by rw [hc41]; rfl) (by decide) (by decide) rfl rfl ?_
                                                                                refine rn_iload_n (q := 0) 0 rfl zd_X9_kindOf_1.2.1.1 ?_
                                                                                cases h
                                                                                exact rn_iret zd_X9_kindOf_1.2.1.2 rfl
                                                                              · rcases zif_e h with ⟨hc42, h⟩ | ⟨hc42, h⟩
                                                                                · refine rn_tblIn (v := 48) (tgt := 260) zd_X9_kindOf_1.1.1.2 (by rw [hc42]; rfl) (by decide) (by decide) rfl rfl ?_
                                                                                  refine rn_iconst (v := 1) zd_X9_kindOf_1.2.2.1 rfl ?_
                                                                                  cases h
                                                                                  exact rn_iret zd_X9_kindOf_1.2.2.2 rfl
                                                                                · rcases zif_e h with ⟨hc43, h⟩ | ⟨hc43, h⟩
                                                                                  · refine rn_tblIn (v := 49) (tgt := 260) zd_X9_kindOf_1.1.1.2 (by rw [hc43]; rfl) (by decide) (by decide) rfl rfl ?_
                                                                                    refine rn_iconst (v := 1) zd_X9_kindOf_1.2.2.1 rfl ?_
                                                                                    cases h
                                                                                    exact rn_iret zd_X9_kindOf_1.2.2.2 rfl
                                                                                  · rcases zif_e h with ⟨hc44, h⟩ | ⟨hc44, h⟩
                                                                                    · refine rn_tblIn (v := 50) (tgt := 260) zd_X9_kindOf_1.1.1.2 (by rw [hc44]; rfl) (by decide) (by decide) rfl rfl ?_
                                                                                      refine rn_iconst (v := 1) zd_X9_kindOf_1.2.2.1 rfl ?_
                                                                                      cases h
                                                                                      exact rn_iret zd_X9_kindOf_1.2.2.2 rfl
                                                                                    · rcases zif_e h with ⟨hc45, h⟩ | ⟨hc45, h⟩
                                                                                      · refine rn_tblIn (v := 51) (tgt := 260) zd_X9_kindOf_1.1.1.2 (by rw [hc45]; rfl) (by decide) (by decide) rfl rfl ?_
                                                                                        refine rn_iconst (v := 1) zd_X9_kindOf_1.2.2.1 rfl ?_
                                                                                        cases h
                                                                                        exact rn_iret zd_X9_kindOf_1.2.2.2 rfl
                                                                                      · rcases zif_e h with ⟨hc46, h⟩ | ⟨hc46, h⟩
                                                                                        · refine rn_tblIn (v := 52) (tgt := 260) zd_X9_kindOf_1.1.1.2 (by rw [hc46]; rfl) (by decide) (by decide) rfl rfl ?_
                                                                                          refine rn_iconst (v := 1) zd_X9_kindOf_1.2.2.1 rfl ?_
                                                                                          cases h
                                                                                          exact rn_iret zd_X9_kindOf_1.2.2.2 rfl
                                                                                        · rcases zif_e h with ⟨hc47, h⟩ | ⟨hc47, h⟩
                                                                                          · refine rn_tblIn (v := 53) (tgt := 260) zd_X9_kindOf_1.1.1.2 (by rw [hc47]; rfl) (by decide) (by decide) rfl rfl ?_
                                                                                            refine rn_iconst (v := 1) zd_X9_kindOf_1.2.2.1 rfl ?_
                                                                                            cases h
                                                                                            exact rn_iret zd_X9_kindOf_1.2.2.2 rfl
                                                                                          · rcases zif_e h with ⟨hc48, h⟩ | ⟨hc48, h⟩
                                                                                            · refine rn_tblIn (v := 54) (tgt := 260) zd_X9_kindOf_1.1.1.2 (by rw [hc48]; rfl) (by decide) (by decide) rfl rfl ?_
                                                                                              refine rn_iconst (v := 1) zd_X9_kindOf_1.2.2.1 rfl ?_
                                                                                              cases h
                                                                                              exact rn_iret zd_X9_kindOf_1.2.2.2 rfl
                                                                                            · rcases zif_e h with ⟨hc49, h⟩ | ⟨hc49, h⟩
                                                                                              · refine rn_tblIn (v := 55) (tgt := 260) zd_X9_kindOf_1.1.1.2 (by rw [hc49]; rfl) (by decide) (by decide) rfl rfl ?_
                                                                                                refine rn_iconst (v := 1) zd_X9_kindOf_1.2.2.1 rfl ?_
                                                                                                cases h
                                                                                                exact rn_iret zd_X9_kindOf_1.2.2.2 rfl
                                                                                              · rcases zif_e h with ⟨hc50, h⟩ | ⟨hc50, h⟩
                                                                                                · refine rn_tblIn (v := 56) (tgt := 260) zd_X9_kindOf_1.1.1.2 (by rw [hc50]; rfl) (by decide) (by decide) rfl rfl ?_
                                                                                                  refine rn_iconst (v := 1) zd_X9_kindOf_1.2.2.1 rfl ?_
                                                                                                  cases h
                                                                                                  exact rn_iret zd_X9_kindOf_1.2.2.2 rfl
                                                                                                · rcases zif_e h with ⟨hc51, h⟩ | ⟨hc51, h⟩
                                                                                                  · refine rn_tblIn (v := 57) (tgt := 260) zd_X9_kindOf_1.1.1.2 (by rw [hc51]; rfl) (by decide) (by decide) rfl rfl ?_
                                                                                                    refine rn_iconst (v := 1) zd_X9_kindOf_1.2.2.1 rfl ?_
                                                                                                    cases h
                                                                                                    exact rn_iret zd_X9_kindOf_1.2.2.2 rfl
                                                                                                  · rcases zif_e h with ⟨hc52, h⟩ | ⟨hc52, h⟩
                                                                                                    · refine rn_tblIn (v := 58) (tgt := 260) zd_X9_kindOf_1.1.1.2 (by rw [hc52]; rfl) (by decide) (by decide) rfl rfl ?_
                                                                                                      refine rn_iconst (v := 1) zd_X9_kindOf_1.2.2.1 rfl ?_
                                                                                                      cases h
                                                                                                      exact rn_iret zd_X9_kindOf_1.2.2.2 rfl
                                                                                                    · rcases zif_e h with ⟨hc53, h⟩ | ⟨hc53, h⟩
                                                                                                      · refine rn_tblIn (v := 59) (tgt := 258) zd_X9_kindOf_1.1.1.2 (by rw [hc53]; rfl) (by decide) (by decide) rfl rfl ?_
                                                                                                        refine rn_iload_n (q := 0) 0 rfl zd_X9_kindOf_1.2.1.1 ?_
                                                                                                        cases h
                                                                                                        exact rn_iret zd_X9_kindOf_1.2.1.2 rfl
                                                                                                      · rcases zif_e h with ⟨hc54, h⟩ | ⟨hc54, h⟩
                                                                                                        · refine rn_tblIn (v := 60) (tgt := 258) zd_X9_kindOf_1.1.1.2 (by rw [hc54]; rfl) (by decide) (by decide) rfl rfl ?_
                                                                                                          refine rn_iload_n (q := 0) 0 rfl zd_X9_kindOf_1.2.1.1 ?_
                                                                                                          cases h
                                                                                                          exact rn_iret zd_X9_kindOf_1.2.1.2 rfl
                                                                                                        · rcases zif_e h with ⟨hc55, h⟩ | ⟨hc55, h⟩
                                                                                                          · refine rn_tblIn (v := 61) (tgt := 258) zd_X9_kindOf_1.1.1.2 (by rw [hc55]; rfl) (by decide) (by decide) rfl rfl ?_
                                                                                                            refine rn_iload_n (q := 0) 0 rfl zd_X9_kindOf_1.2.1.1 ?_
                                                                                                            cases h
                                                                                                            exact rn_iret zd_X9_kindOf_1.2.1.2 rfl
                                                                                                          · have ht : x0.toInt < 9 ∨ 61 < x0.toInt := by
                                                                                                              have q0 := zto (n := 9) hc3 rfl
                                                                                                              have q1 := zto (n := 10) hc4 rfl
                                                                                                              have q2 := zto (n := 11) hc5 rfl
                                                                                                              have q3 := zto (n := 12) hc6 rfl
                                                                                                              have q4 := zto (n := 13) hc7 rfl
                                                                                                              have q5 := zto (n := 14) hc8 rfl
                                                                                                              have q6 := zto (n := 15) hc9 rfl
                                                                                                              have q7 := zto (n := 16) hc10 rfl
                                                                                                              have q8 := zto (n := 17) hc11 rfl
                                                                                                              have q9 := zto (n := 18) hc12 rfl
                                                                                                              have q10 := zto (n := 19) hc13 rfl
                                                                                                              have q11 := zto (n := 20) hc14 rfl
                                                                                                              have q12 := zto (n := 21) hc15 rfl
                                                                                                              have q13 := zto (n := 22) hc16 rfl
                                                                                                              have q14 := zto (n := 23) hc17 rfl
                                                                                                              have q15 := zto (n := 24) hc18 rfl
                                                                                                              have q16 := zto (n := 25) hc19 rfl
                                                                                                              have q17 := zto (n := 26) hc20 rfl
                                                                                                              have q18 := zto (n := 27) hc21 rfl
                                                                                                              have q19 := zto (n := 28) hc22 rfl
                                                                                                              have q20 := zto (n := 29) hc23 rfl
                                                                                                              have q21 := zto (n := 30) hc24 rfl
                                                                                                              have q22 := zto (n := 31) hc25 rfl
                                                                                                              have q23 := zto (n := 32) hc26 rfl
                                                                                                              have q24 := zto (n := 33) hc27 rfl
                                                                                                              have q25 := zto (n := 34) hc28 rfl
                                                                                                              have q26 := zto (n := 35) hc29 rfl
                                                                                                              have q27 := zto (n := 36) hc30 rfl
                                                                                                              have q28 := zto (n := 37) hc31 rfl
                                                                                                              have q29 := zto (n := 38) hc32 rfl
                                                                                                              have q30 := zto (n := 39) hc33 rfl
                                                                                                              have q31 := zto (n := 40) hc34 rfl
                                                                                                              have q32 := zto (n := 41) hc35 rfl
                                                                                                              have q33 := zto (n := 42) hc36 rfl
                                                                                                              have q34 := zto (n := 43) hc37 rfl
                                                                                                              have q35 := zto (n := 44) hc38 rfl
                                                                                                              have q36 := zto (n := 45) hc39 rfl
                                                                                                              have q37 := zto (n := 46) hc40 rfl
                                                                                                              have q38 := zto (n := 47) hc41 rfl
                                                                                                              have q39 := zto (n := 48) hc42 rfl
                                                                                                              have q40 := zto (n := 49) hc43 rfl
                                                                                                              have q41 := zto (n := 50) hc44 rfl
                                                                                                              have q42 := zto (n := 51) hc45 rfl
                                                                                                              have q43 := zto (n := 52) hc46 rfl
                                                                                                              have q44 := zto (n := 53) hc47 rfl
                                                                                                              have q45 := zto (n := 54) hc48 rfl
                                                                                                              have q46 := zto (n := 55) hc49 rfl
                                                                                                              have q47 := zto (n := 56) hc50 rfl
                                                                                                              have q48 := zto (n := 57) hc51 rfl
                                                                                                              have q49 := zto (n := 58) hc52 rfl
                                                                                                              have q50 := zto (n := 59) hc53 rfl
                                                                                                              have q51 := zto (n := 60) hc54 rfl
                                                                                                              have q52 := zto (n := 61) hc55 rfl
                                                                                                              omega
                                                                                                            refine rn_tblOut (tgt := 260) zd_X9_kindOf_1.1.1.2 ht rfl ?_
                                                                                                            refine rn_iconst (v := 1) zd_X9_kindOf_1.2.2.1 rfl ?_
                                                                                                            cases h
                                                                                                            exact rn_iret zd_X9_kindOf_1.2.2.2 rfl
def j_X9_kindOf_14 (x0 : Int32) : Option (Int32) :=
  if x0 < (48 : Int32) then (
    j_X9_kindOf_28 x0
  ) else (
    if (57 : Int32) < x0 then (
      j_X9_kindOf_28 x0
    ) else (
      some (3 : Int32)
    )
  )
set_option maxRecDepth 4000 in
theorem ok_j_X9_kindOf_14 {G : zG} {K : zK} {R : zR} {M : zM} {L : zL} (hW : zWT R K) {x0 : Int32} {r' : Int32} (h : j_X9_kindOf_14 x0 = some r') : Rn G mt_X9_kindOf 14 [(0, .int x0)] [] (M, L, R, K) (some (.int r')) (M, L, R, K) := by
  unfold j_X9_kindOf_14 at h
  refine rn_iload_n (q := 0) 0 rfl zd_X9_kindOf_0.2.1.1.1 ?_
  refine rn_bipush (v := 48) zd_X9_kindOf_0.2.1.1.2 rfl ?_
  rcases zif_e h with ⟨hc2, h⟩ | ⟨hc2, h⟩
  · refine rn_icmp_lt_t (tgt := 28) hc2 zd_X9_kindOf_0.2.1.2.1 rfl ?_
    exact rn_sub (ls' := [(0, .int x0)]) [0] rfl (ok_j_X9_kindOf_28 hW h)
  · refine rn_icmp_lt_f (tgt := 28) hc2 zd_X9_kindOf_0.2.1.2.1 rfl ?_
    refine rn_iload_n (q := 0) 0 rfl zd_X9_kindOf_0.2.1.2.2 ?_
    refine rn_bipush (v := 57) zd_X9_kindOf_0.2.2.1.1 rfl ?_
    rcases zif_e h with ⟨hc56, h⟩ | ⟨hc56, h⟩
    · refine rn_icmp_gt_t (tgt := 28) hc56 zd_X9_kindOf_0.2.2.1.2 rfl ?_
      exact rn_sub (ls' := [(0, .int x0)]) [0] rfl (ok_j_X9_kindOf_28 hW h)
    · refine rn_icmp_gt_f (tgt := 28) hc56 zd_X9_kindOf_0.2.2.1.2 rfl ?_
      refine rn_iconst (v := 3) zd_X9_kindOf_0.2.2.2.1 rfl ?_
      cases h
      exact rn_iret zd_X9_kindOf_0.2.2.2.2 rfl
def f_X9_kindOf (x0 : Int32) : Option (Int32) :=
  if x0 < (97 : Int32) then (
    j_X9_kindOf_14 x0
  ) else (
    if (122 : Int32) < x0 then (
      j_X9_kindOf_14 x0
    ) else (
      some (2 : Int32)
    )
  )
set_option maxRecDepth 4000 in
theorem ok_X9_kindOf {G : zG} {K : zK} {R : zR} {M : zM} {L : zL} (hW : zWT R K) {x0 : Int32} {r' : Int32} (h : f_X9_kindOf x0 = some r') : Rm G mt_X9_kindOf [.int x0] (M, L, R, K) (some (.int r')) (M, L, R, K) := by
  refine rm_rn rfl rfl (Nat.le_of_ble_eq_true rfl) ?_
  show Rn G mt_X9_kindOf 0 [(0, .int x0)] [] (M, L, R, K) (some (.int r')) (M, L, R, K)
  unfold f_X9_kindOf at h
  refine rn_iload_n (q := 0) 0 rfl zd_X9_kindOf_0.1.1.1.1 ?_
  refine rn_bipush (v := 97) zd_X9_kindOf_0.1.1.1.2 rfl ?_
  rcases zif_e h with ⟨hc1, h⟩ | ⟨hc1, h⟩
  · refine rn_icmp_lt_t (tgt := 14) hc1 zd_X9_kindOf_0.1.1.2.1 rfl ?_
    exact rn_sub (ls' := [(0, .int x0)]) [0] rfl (ok_j_X9_kindOf_14 hW h)
  · refine rn_icmp_lt_f (tgt := 14) hc1 zd_X9_kindOf_0.1.1.2.1 rfl ?_
    refine rn_iload_n (q := 0) 0 rfl zd_X9_kindOf_0.1.1.2.2 ?_
    refine rn_bipush (v := 122) zd_X9_kindOf_0.1.2.1.1 rfl ?_
    rcases zif_e h with ⟨hc57, h⟩ | ⟨hc57, h⟩
    · refine rn_icmp_gt_t (tgt := 14) hc57 zd_X9_kindOf_0.1.2.1.2 rfl ?_
      exact rn_sub (ls' := [(0, .int x0)]) [0] rfl (ok_j_X9_kindOf_14 hW h)
    · refine rn_icmp_gt_f (tgt := 14) hc57 zd_X9_kindOf_0.1.2.1.2 rfl ?_
      refine rn_iconst (v := 2) zd_X9_kindOf_0.1.2.2.1 rfl ?_
      cases h
      exact rn_iret zd_X9_kindOf_0.1.2.2.2 rfl
def f_X9_open (R : zR) (M : zM) (L : zL) (a0 : Nat) (x1 : Int32) (x2 : Int32) : Option (Int32 × zM × zL) :=
  if (M a0 4) < 0 then (
    some ((0 : Int32), M, L)
  ) else (
    if (M a0 4) ≤ (400 : Int32) then (
      zck (zin (M a0 4) 402) <|
      zlt (zup M (R a0 0) (ztn (M a0 4)) x1) fun M4 =>
      zck (zin (M4 a0 4) 402) <|
      zlt (zup M4 (R a0 1) (ztn (M4 a0 4)) x2) fun M6 =>
      zck (zin (M6 a0 4) 402) <|
      zlt (zupL L (R a0 2) (ztn (M6 a0 4)) (0 : Int64)) fun L8 =>
      zlt (zup M6 a0 5 (0 : Int32)) fun M9 =>
      zlt (zup M9 a0 4 ((M9 a0 4) + (1 : Int32))) fun M10 =>
      some ((1 : Int32), M10, L8)
    ) else (
      some ((0 : Int32), M, L)
    )
  )
set_option maxRecDepth 4000 in
theorem ok_X9_open {G : zG} {K : zK} {R : zR} {M : zM} {L : zL} (hW : zWT R K) {a0 : Nat} {x1 : Int32} {x2 : Int32} (k_a0 : K[a0]? = some (9, 6)) {r' : Int32} {M' : zM} {L' : zL} (h : f_X9_open R M L a0 x1 x2 = some (r', M', L')) : Rm G mt_X9_open [.ref a0, .int x1, .int x2] (M, L, R, K) (some (.int r')) (M', L', R, K) := by
  refine rm_rn rfl rfl (Nat.le_of_ble_eq_true rfl) ?_
  show Rn G mt_X9_open 0 [(0, .ref a0), (1, .int x1), (2, .int x2)] [] (M, L, R, K) (some (.int r')) (M', L', R, K)
  unfold f_X9_open at h
  refine rn_aload_n (q := 0) 0 rfl zd_X9_open_0.1.1.1.1 ?_
  refine rn_getI zf_X9_41 (Or.inl rfl) k_a0 zd_X9_open_0.1.1.1.2 ?_
  rcases zif_e h with ⟨hc1, h⟩ | ⟨hc1, h⟩
  · refine rn_if_lt_t (tgt := 17) hc1 zd_X9_open_0.1.1.2.1 rfl ?_
    refine rn_iconst (v := 0) zd_X9_open_0.1.2.2.2 rfl ?_
    cases h
    exact rn_zret zd_X9_open_0.2.1.1.1 rfl rfl
  · refine rn_if_lt_f (tgt := 17) hc1 zd_X9_open_0.1.1.2.1 rfl ?_
    refine rn_aload_n (q := 0) 0 rfl zd_X9_open_0.1.1.2.2 ?_
    refine rn_getI zf_X9_41 (Or.inl rfl) k_a0 zd_X9_open_0.1.2.1.1 ?_
    refine rn_sipush (v := 400) zd_X9_open_0.1.2.1.2 rfl ?_
    rcases zif_e h with ⟨hc2, h⟩ | ⟨hc2, h⟩
    · refine rn_icmp_le_t (tgt := 19) hc2 zd_X9_open_0.1.2.2.1 rfl ?_
      refine rn_aload_n (q := 0) 0 rfl zd_X9_open_0.2.1.1.2 ?_
      refine rn_getR zf_X9_9 (Or.inr ⟨_, rfl⟩) k_a0 (zx_9_0 hW k_a0) zd_X9_open_0.2.1.2.1 ?_
      refine rn_aload_n (q := 0) 0 rfl zd_X9_open_0.2.1.2.2 ?_
      refine rn_getI zf_X9_41 (Or.inl rfl) k_a0 zd_X9_open_0.2.2.1.1 ?_
      refine rn_iload_n (q := 1) 1 rfl zd_X9_open_0.2.2.1.2 ?_
      obtain ⟨hc3, h⟩ := zck_e h
      obtain ⟨M4, hM4, h⟩ := zlt_e h
      refine rn_iast hM4 (zw_9_0 hW k_a0) hc3 zd_X9_open_0.2.2.2.1 ?_
      refine rn_aload_n (q := 0) 0 rfl zd_X9_open_0.2.2.2.2 ?_
      refine rn_getR zf_X9_15 (Or.inr ⟨_, rfl⟩) k_a0 (zx_9_1 hW k_a0) zd_X9_open_1.1.1.1.1 ?_
      refine rn_aload_n (q := 0) 0 rfl zd_X9_open_1.1.1.1.2 ?_
      refine rn_getI zf_X9_41 (Or.inl rfl) k_a0 zd_X9_open_1.1.1.2.1 ?_
      refine rn_iload_n (q := 2) 2 rfl zd_X9_open_1.1.1.2.2 ?_
      obtain ⟨hc5, h⟩ := zck_e h
      obtain ⟨M6, hM6, h⟩ := zlt_e h
      refine rn_iast hM6 (zw_9_1 hW k_a0) hc5 zd_X9_open_1.1.2.1.1 ?_
      refine rn_aload_n (q := 0) 0 rfl zd_X9_open_1.1.2.1.2 ?_
      refine rn_getR zf_X9_18 (Or.inr ⟨_, rfl⟩) k_a0 (zx_9_2 hW k_a0) zd_X9_open_1.1.2.2.1 ?_
      refine rn_aload_n (q := 0) 0 rfl zd_X9_open_1.1.2.2.2 ?_
      refine rn_getI zf_X9_41 (Or.inl rfl) k_a0 zd_X9_open_1.2.1.1.1 ?_
      refine rn_lconst (v := 0) zd_X9_open_1.2.1.1.2 rfl ?_
      obtain ⟨hc7, h⟩ := zck_e h
      obtain ⟨L8, hL8, h⟩ := zlt_e h
      refine rn_last hL8 (zw_9_2 hW k_a0) hc7 zd_X9_open_1.2.1.2.1 ?_
      refine rn_aload_n (q := 0) 0 rfl zd_X9_open_1.2.1.2.2 ?_
      refine rn_iconst (v := 0) zd_X9_open_1.2.2.1.1 rfl ?_
      obtain ⟨M9, hM9, h⟩ := zlt_e h
      refine rn_putI hM9 zf_X9_68 k_a0 zd_X9_open_1.2.2.1.2 ?_
      refine rn_aload_n (q := 0) 0 rfl zd_X9_open_1.2.2.2.1 ?_
      refine rn_dup zd_X9_open_1.2.2.2.2 rfl ?_
      refine rn_getI zf_X9_41 (Or.inl rfl) k_a0 zd_X9_open_2.1.1 ?_
      refine rn_iconst (v := 1) zd_X9_open_2.1.2.1 rfl ?_
      refine rn_iadd zd_X9_open_2.1.2.2 ?_
      obtain ⟨M10, hM10, h⟩ := zlt_e h
      refine rn_putI hM10 zf_X9_41 k_a0 zd_X9_open_2.2.1 ?_
      refine rn_iconst (v := 1) zd_X9_open_2.2.2.1 rfl ?_
      cases h
      exact rn_zret zd_X9_open_2.2.2.2 rfl rfl
    · refine rn_icmp_le_f (tgt := 19) hc2 zd_X9_open_0.1.2.2.1 rfl ?_
      refine rn_iconst (v := 0) zd_X9_open_0.1.2.2.2 rfl ?_
      cases h
      exact rn_zret zd_X9_open_0.2.1.1.1 rfl rfl
abbrev P_X9_scan_9 (G : zG) (K : zK) (R : zR) (a0 : Nat) (a1 : Nat) (r : Option Value) (S' : zS) (v : Int32 × Int32 × zM × zL) : Prop := Rn G mt_X9_scan 9 [(0, .ref a0), (1, .ref a1), (2, .int v.1), (3, .int v.2.1)] [] (v.2.2.1, v.2.2.2, R, K) r S'
abbrev Q_X9_scan_9 (G : zG) (K : zK) (R : zR) (a0 : Nat) (a1 : Nat) (r : Option Value) (S' : zS) : (zM × zL) ⊕ (zM × zL) → Prop := (Sum.elim (fun e => Rn G mt_X9_scan 77 [(0, .ref a0), (1, .ref a1)] [] (e.1, e.2, R, K) r S') (fun e => Rn G mt_X9_scan 109 [(0, .ref a0), (1, .ref a1)] [] (e.1, e.2, R, K) r S'))
def j_X9_scan_92 (R : zR) (M : zM) (L : zL) (a0 : Nat) (a1 : Nat) (x3 : Int32) (x4 : Int32) (x5 : Int32) : Option ((Int32 × Int32 × zM × zL) ⊕ ((zM × zL) ⊕ (zM × zL))) :=
  zbd2 (f_X9_grow R M L a0 x5 x4) fun M10 L11 =>
  some (.inl (x5, (x3 + 1), M10, L11))
set_option maxRecDepth 4000 in
theorem ok_j_X9_scan_92 {G : zG} {K : zK} {R : zR} {M : zM} {L : zL} (hW : zWT R K) {a0 : Nat} {a1 : Nat} {x3 : Int32} {x4 : Int32} {x5 : Int32} (k_a0 : K[a0]? = some (9, 6)) (k_a1 : K[a1]? = some (8, 2)) {r : Option Value} {S' : zS} {x : (Int32 × Int32 × zM × zL) ⊕ ((zM × zL) ⊕ (zM × zL))} (h : j_X9_scan_92 R M L a0 a1 x3 x4 x5 = some x) (hk : Sum.elim (P_X9_scan_9 G K R a0 a1 r S') (Q_X9_scan_9 G K R a0 a1 r S') x) : Rn G mt_X9_scan 92 [(0, .ref a0), (1, .ref a1), (3, .int x3), (4, .int x4), (5, .int x5)] [] (M, L, R, K) r S' := by
  unfold j_X9_scan_92 at h
  refine rn_aload_n (q := 0) 0 rfl zd_X9_scan_3.1.1.1 ?_
  refine rn_iload 4 rfl zd_X9_scan_3.1.1.2.1 ?_
  refine rn_iload 3 rfl zd_X9_scan_3.1.1.2.2 ?_
  obtain ⟨M10, L11, h12, h⟩ := zbd2_e h
  refine rn_callVv (As := [.int x5, .int x4]) (rest := []) zl_X9_60 zm_X9_grow ⟨by decide, by decide⟩ (ci := 9) rfl rfl (by decide) k_a0 rfl rfl (Nat.le_of_ble_eq_true rfl) zd_X9_scan_3.1.2.1 (ok_X9_grow hW k_a0 h12) ?_
  refine rn_iload 4 rfl zd_X9_scan_3.1.2.2.1 ?_
  refine rn_istore_n (q := 2) (ls' := [(2, .int x5), (0, .ref a0), (1, .ref a1), (3, .int x3), (4, .int x4), (5, .int x5)]) (by decide) rfl zd_X9_scan_3.1.2.2.2 ?_
  refine rn_iinc (v := (x3 + 1)) (ls' := [(3, .int (x3 + 1)), (2, .int x5), (0, .ref a0), (1, .ref a1), (4, .int x4), (5, .int x5)]) 3 rfl rfl (by decide) rfl zd_X9_scan_3.2.1.1 ?_
  refine rn_goto (tgt := 9) zd_X9_scan_3.2.1.2.1 rfl ?_
  cases h
  exact rn_sub (ls' := [(0, .ref a0), (1, .ref a1), (2, .int x5), (3, .int (x3 + 1))]) [2, 3, 1, 0] rfl hk
def j_X9_scan_80 (R : zR) (M : zM) (L : zL) (a0 : Nat) (a1 : Nat) (x3 : Int32) (x4 : Int32) (x5 : Int32) : Option ((Int32 × Int32 × zM × zL) ⊕ ((zM × zL) ⊕ (zM × zL))) :=
  if x5 = (2 : Int32) then (
    j_X9_scan_92 R M L a0 a1 x3 x4 x5
  ) else (
    if x5 = (3 : Int32) then (
      j_X9_scan_92 R M L a0 a1 x3 x4 x5
    ) else (
      some (.inl (x5, (x3 + 1), M, L))
    )
  )
set_option maxRecDepth 4000 in
theorem ok_j_X9_scan_80 {G : zG} {K : zK} {R : zR} {M : zM} {L : zL} (hW : zWT R K) {a0 : Nat} {a1 : Nat} {x3 : Int32} {x4 : Int32} {x5 : Int32} (k_a0 : K[a0]? = some (9, 6)) (k_a1 : K[a1]? = some (8, 2)) {r : Option Value} {S' : zS} {x : (Int32 × Int32 × zM × zL) ⊕ ((zM × zL) ⊕ (zM × zL))} (h : j_X9_scan_80 R M L a0 a1 x3 x4 x5 = some x) (hk : Sum.elim (P_X9_scan_9 G K R a0 a1 r S') (Q_X9_scan_9 G K R a0 a1 r S') x) : Rn G mt_X9_scan 80 [(0, .ref a0), (1, .ref a1), (3, .int x3), (4, .int x4), (5, .int x5)] [] (M, L, R, K) r S' := by
  unfold j_X9_scan_80 at h
  refine rn_iload 4 rfl zd_X9_scan_2.2.1.2.1 ?_
  refine rn_iconst (v := 2) zd_X9_scan_2.2.1.2.2 rfl ?_
  rcases zif_e h with ⟨hc9, h⟩ | ⟨hc9, h⟩
  · refine rn_icmp_eq_t (tgt := 92) hc9 zd_X9_scan_2.2.2.1.1 rfl ?_
    exact rn_sub (ls' := [(0, .ref a0), (1, .ref a1), (3, .int x3), (4, .int x4), (5, .int x5)]) [0, 1, 2, 3, 4] rfl (ok_j_X9_scan_92 hW k_a0 k_a1 h hk)
  · refine rn_icmp_eq_f (tgt := 92) hc9 zd_X9_scan_2.2.2.1.1 rfl ?_
    refine rn_iload 4 rfl zd_X9_scan_2.2.2.1.2 ?_
    refine rn_iconst (v := 3) zd_X9_scan_2.2.2.2.1 rfl ?_
    rcases zif_e h with ⟨hc13, h⟩ | ⟨hc13, h⟩
    · refine rn_icmp_ne_f (tgt := 100) hc13 zd_X9_scan_2.2.2.2.2 rfl ?_
      exact rn_sub (ls' := [(0, .ref a0), (1, .ref a1), (3, .int x3), (4, .int x4), (5, .int x5)]) [0, 1, 2, 3, 4] rfl (ok_j_X9_scan_92 hW k_a0 k_a1 h hk)
    · refine rn_icmp_ne_t (tgt := 100) hc13 zd_X9_scan_2.2.2.2.2 rfl ?_
      refine rn_iload 4 rfl zd_X9_scan_3.1.2.2.1 ?_
      refine rn_istore_n (q := 2) (ls' := [(2, .int x5), (0, .ref a0), (1, .ref a1), (3, .int x3), (4, .int x4), (5, .int x5)]) (by decide) rfl zd_X9_scan_3.1.2.2.2 ?_
      refine rn_iinc (v := (x3 + 1)) (ls' := [(3, .int (x3 + 1)), (2, .int x5), (0, .ref a0), (1, .ref a1), (4, .int x4), (5, .int x5)]) 3 rfl rfl (by decide) rfl zd_X9_scan_3.2.1.1 ?_
      refine rn_goto (tgt := 9) zd_X9_scan_3.2.1.2.1 rfl ?_
      cases h
      exact rn_sub (ls' := [(0, .ref a0), (1, .ref a1), (2, .int x5), (3, .int (x3 + 1))]) [2, 3, 1, 0] rfl hk
def j_X9_scan_54 (R : zR) (M : zM) (L : zL) (a0 : Nat) (a1 : Nat) (x3 : Int32) (x4 : Int32) (x5 : Int32) (s0 : Int32) : Option ((Int32 × Int32 × zM × zL) ⊕ ((zM × zL) ⊕ (zM × zL))) :=
  if s0 = 0 then (
    if x5 = (4 : Int32) then (
      j_X9_scan_80 R M L a0 a1 x3 x4 x5
    ) else (
      zbd3 (f_X9_open R M L a0 x5 x3) fun r15 M16 L17 =>
      if r15 = 0 then (
        some (.inr (.inl (M16, L17)))
      ) else (
        j_X9_scan_80 R M16 L17 a0 a1 x3 x4 x5
      )
    )
  ) else (
    j_X9_scan_80 R M L a0 a1 x3 x4 x5
  )
set_option maxRecDepth 4000 in
theorem ok_j_X9_scan_54 {G : zG} {K : zK} {R : zR} {M : zM} {L : zL} (hW : zWT R K) {a0 : Nat} {a1 : Nat} {x3 : Int32} {x4 : Int32} {x5 : Int32} {s0 : Int32} (k_a0 : K[a0]? = some (9, 6)) (k_a1 : K[a1]? = some (8, 2)) {r : Option Value} {S' : zS} {x : (Int32 × Int32 × zM × zL) ⊕ ((zM × zL) ⊕ (zM × zL))} (h : j_X9_scan_54 R M L a0 a1 x3 x4 x5 s0 = some x) (hk : Sum.elim (P_X9_scan_9 G K R a0 a1 r S') (Q_X9_scan_9 G K R a0 a1 r S') x) : Rn G mt_X9_scan 54 [(0, .ref a0), (1, .ref a1), (3, .int x3), (4, .int x4), (5, .int x5)] [.int s0] (M, L, R, K) r S' := by
  unfold j_X9_scan_54 at h
  refine rn_istore (ls' := [(6, .int s0), (0, .ref a0), (1, .ref a1), (3, .int x3), (4, .int x4), (5, .int x5)]) (by decide) rfl zd_X9_scan_1.2.2.2.1 ?_
  refine rn_iload 0 rfl zd_X9_scan_1.2.2.2.2 ?_
  rcases zif_e h with ⟨hc8, h⟩ | ⟨hc8, h⟩
  · refine rn_if_ne_f (tgt := 80) hc8 zd_X9_scan_2.1.1.1.1 rfl ?_
    refine rn_iload 5 rfl zd_X9_scan_2.1.1.1.2 ?_
    refine rn_iconst (v := 4) zd_X9_scan_2.1.1.2.1 rfl ?_
    rcases zif_e h with ⟨hc14, h⟩ | ⟨hc14, h⟩
    · refine rn_icmp_eq_t (tgt := 80) hc14 zd_X9_scan_2.1.1.2.2 rfl ?_
      exact rn_sub (ls' := [(0, .ref a0), (1, .ref a1), (3, .int x3), (4, .int x4), (5, .int x5)]) [1, 2, 3, 4, 5] rfl (ok_j_X9_scan_80 hW k_a0 k_a1 h hk)
    · refine rn_icmp_eq_f (tgt := 80) hc14 zd_X9_scan_2.1.1.2.2 rfl ?_
      refine rn_aload_n (q := 0) 1 rfl zd_X9_scan_2.1.2.1.1 ?_
      refine rn_iload 5 rfl zd_X9_scan_2.1.2.1.2 ?_
      refine rn_iload_n (q := 3) 3 rfl zd_X9_scan_2.1.2.2.1 ?_
      obtain ⟨r15, M16, L17, h18, h⟩ := zbd3_e h
      refine rn_callVi (As := [.int x5, .int x3]) (rest := []) zl_X9_56 zm_X9_open ⟨by decide, by decide⟩ (ci := 9) rfl rfl (by decide) k_a0 rfl rfl (Nat.le_of_ble_eq_true rfl) zd_X9_scan_2.1.2.2.2 (ok_X9_open hW k_a0 h18) ?_
      rcases zif_e h with ⟨hc19, h⟩ | ⟨hc19, h⟩
      · refine rn_if_ne_f (tgt := 80) hc19 zd_X9_scan_2.2.1.1.1 rfl ?_
        cases h
        exact rn_sub (ls' := [(0, .ref a0), (1, .ref a1)]) [1, 2] rfl hk
      · refine rn_if_ne_t (tgt := 80) hc19 zd_X9_scan_2.2.1.1.1 rfl ?_
        exact rn_sub (ls' := [(0, .ref a0), (1, .ref a1), (3, .int x3), (4, .int x4), (5, .int x5)]) [1, 2, 3, 4, 5] rfl (ok_j_X9_scan_80 hW k_a0 k_a1 h hk)
  · refine rn_if_ne_t (tgt := 80) hc8 zd_X9_scan_2.1.1.1.1 rfl ?_
    exact rn_sub (ls' := [(0, .ref a0), (1, .ref a1), (3, .int x3), (4, .int x4), (5, .int x5)]) [1, 2, 3, 4, 5] rfl (ok_j_X9_scan_80 hW k_a0 k_a1 h hk)
def j_X9_scan_53 (R : zR) (M : zM) (L : zL) (a0 : Nat) (a1 : Nat) (x3 : Int32) (x4 : Int32) (x5 : Int32) : Option ((Int32 × Int32 × zM × zL) ⊕ ((zM × zL) ⊕ (zM × zL))) :=
  j_X9_scan_54 R M L a0 a1 x3 x4 x5 (0 : Int32)
set_option maxRecDepth 4000 in
theorem ok_j_X9_scan_53 {G : zG} {K : zK} {R : zR} {M : zM} {L : zL} (hW : zWT R K) {a0 : Nat} {a1 : Nat} {x3 : Int32} {x4 : Int32} {x5 : Int32} (k_a0 : K[a0]? = some (9, 6)) (k_a1 : K[a1]? = some (8, 2)) {r : Option Value} {S' : zS} {x : (Int32 × Int32 × zM × zL) ⊕ ((zM × zL) ⊕ (zM × zL))} (h : j_X9_scan_53 R M L a0 a1 x3 x4 x5 = some x) (hk : Sum.elim (P_X9_scan_9 G K R a0 a1 r S') (Q_X9_scan_9 G K R a0 a1 r S') x) : Rn G mt_X9_scan 53 [(0, .ref a0), (1, .ref a1), (3, .int x3), (4, .int x4), (5, .int x5)] [] (M, L, R, K) r S' := by
  unfold j_X9_scan_53 at h
  refine rn_iconst (v := 0) zd_X9_scan_1.2.2.1.2 rfl ?_
  exact rn_sub (ls' := [(0, .ref a0), (1, .ref a1), (3, .int x3), (4, .int x4), (5, .int x5)]) [0, 1, 2, 3, 4] rfl (ok_j_X9_scan_54 hW k_a0 k_a1 h hk)
def j_X9_scan_49 (R : zR) (M : zM) (L : zL) (a0 : Nat) (a1 : Nat) (x3 : Int32) (x4 : Int32) (x5 : Int32) : Option ((Int32 × Int32 × zM × zL) ⊕ ((zM × zL) ⊕ (zM × zL))) :=
  j_X9_scan_54 R M L a0 a1 x3 x4 x5 (1 : Int32)
set_option maxRecDepth 4000 in
theorem ok_j_X9_scan_49 {G : zG} {K : zK} {R : zR} {M : zM} {L : zL} (hW : zWT R K) {a0 : Nat} {a1 : Nat} {x3 : Int32} {x4 : Int32} {x5 : Int32} (k_a0 : K[a0]? = some (9, 6)) (k_a1 : K[a1]? = some (8, 2)) {r : Option Value} {S' : zS} {x : (Int32 × Int32 × zM × zL) ⊕ ((zM × zL) ⊕ (zM × zL))} (h : j_X9_scan_49 R M L a0 a1 x3 x4 x5 = some x) (hk : Sum.elim (P_X9_scan_9 G K R a0 a1 r S') (Q_X9_scan_9 G K R a0 a1 r S') x) : Rn G mt_X9_scan 49 [(0, .ref a0), (1, .ref a1), (3, .int x3), (4, .int x4), (5, .int x5)] [] (M, L, R, K) r S' := by
  unfold j_X9_scan_49 at h
  refine rn_iconst (v := 1) zd_X9_scan_1.2.1.2.2 rfl ?_
  refine rn_goto (tgt := 54) zd_X9_scan_1.2.2.1.1 rfl ?_
  exact rn_sub (ls' := [(0, .ref a0), (1, .ref a1), (3, .int x3), (4, .int x4), (5, .int x5)]) [0, 1, 2, 3, 4] rfl (ok_j_X9_scan_54 hW k_a0 k_a1 h hk)
def b_X9_scan_9 (R : zR) (M : zM) (L : zL) (a0 : Nat) (a1 : Nat) (x2 : Int32) (x3 : Int32) : Option ((Int32 × Int32 × zM × zL) ⊕ ((zM × zL) ⊕ (zM × zL))) :=
  if (M a1 1) ≤ x3 then (
    some (.inr (.inr (M, L)))
  ) else (
    zbd (f_X8_byteAt R M a1 x3) fun r3 =>
    zbd (f_X9_kindOf r3) fun r5 =>
    if r5 = x2 then (
      if r5 = (2 : Int32) then (
        j_X9_scan_49 R M L a0 a1 x3 r3 r5
      ) else (
        if r5 = (3 : Int32) then (
          j_X9_scan_49 R M L a0 a1 x3 r3 r5
        ) else (
          j_X9_scan_53 R M L a0 a1 x3 r3 r5
        )
      )
    ) else (
      j_X9_scan_53 R M L a0 a1 x3 r3 r5
    )
  )
set_option maxRecDepth 4000 in
theorem ok_b_X9_scan_9 {G : zG} {K : zK} {R : zR} {M : zM} {L : zL} (hW : zWT R K) {a0 : Nat} {a1 : Nat} {x2 : Int32} {x3 : Int32} (k_a0 : K[a0]? = some (9, 6)) (k_a1 : K[a1]? = some (8, 2)) {r : Option Value} {S' : zS} {x : (Int32 × Int32 × zM × zL) ⊕ ((zM × zL) ⊕ (zM × zL))} (h : b_X9_scan_9 R M L a0 a1 x2 x3 = some x) (hk : Sum.elim (P_X9_scan_9 G K R a0 a1 r S') (Q_X9_scan_9 G K R a0 a1 r S') x) : P_X9_scan_9 G K R a0 a1 r S' (x2, x3, M, L) := by
  show Rn G mt_X9_scan 9 [(0, .ref a0), (1, .ref a1), (2, .int x2), (3, .int x3)] [] (M, L, R, K) r S'
  unfold b_X9_scan_9 at h
  refine rn_iload_n (q := 3) 3 rfl zd_X9_scan_0.1.2.2.2 ?_
  refine rn_aload_n (q := 1) 1 rfl zd_X9_scan_0.2.1.1.1 ?_
  refine rn_getI zf_X9_45 (Or.inl rfl) k_a1 zd_X9_scan_0.2.1.1.2 ?_
  rcases zif_e h with ⟨hc2, h⟩ | ⟨hc2, h⟩
  · refine rn_icmp_ge_t (tgt := 109) hc2 zd_X9_scan_0.2.1.2.1 rfl ?_
    cases h
    exact rn_sub (ls' := [(0, .ref a0), (1, .ref a1)]) [0, 1] rfl hk
  · refine rn_icmp_ge_f (tgt := 109) hc2 zd_X9_scan_0.2.1.2.1 rfl ?_
    refine rn_aload_n (q := 1) 1 rfl zd_X9_scan_0.2.1.2.2 ?_
    refine rn_iload_n (q := 3) 3 rfl zd_X9_scan_0.2.2.1.1 ?_
    obtain ⟨r3, h4, h⟩ := zbd_e h
    refine rn_callVi (As := [.int x3]) (rest := []) zl_X9_49 zm_X8_byteAt ⟨by decide, by decide⟩ (ci := 8) rfl rfl (by decide) k_a1 rfl rfl (Nat.le_of_ble_eq_true rfl) zd_X9_scan_0.2.2.1.2 (ok_X8_byteAt hW k_a1 h4) ?_
    refine rn_istore (ls' := [(4, .int r3), (0, .ref a0), (1, .ref a1), (2, .int x2), (3, .int x3)]) (by decide) rfl zd_X9_scan_0.2.2.2.1 ?_
    refine rn_iload 0 rfl zd_X9_scan_0.2.2.2.2 ?_
    obtain ⟨r5, h6, h⟩ := zbd_e h
    refine rn_callSi (As := [.int r3]) (rest := []) zl_X9_53 zm_X9_kindOf ⟨by decide, by decide⟩ rfl rfl (Nat.le_of_ble_eq_true rfl) zd_X9_scan_1.1.1.1.1 (ok_X9_kindOf hW h6) ?_
    refine rn_istore (ls' := [(5, .int r5), (4, .int r3), (0, .ref a0), (1, .ref a1), (2, .int x2), (3, .int x3)]) (by decide) rfl zd_X9_scan_1.1.1.1.2 ?_
    refine rn_iload 0 rfl zd_X9_scan_1.1.1.2.1 ?_
    refine rn_iload_n (q := 2) 4 rfl zd_X9_scan_1.1.1.2.2 ?_
    rcases zif_e h with ⟨hc7, h⟩ | ⟨hc7, h⟩
    · refine rn_icmp_ne_f (tgt := 53) hc7 zd_X9_scan_1.1.2.1.1 rfl ?_
      refine rn_iload 0 rfl zd_X9_scan_1.1.2.1.2 ?_
      refine rn_iconst (v := 2) zd_X9_scan_1.1.2.2.1 rfl ?_
      rcases zif_e h with ⟨hc20, h⟩ | ⟨hc20, h⟩
      · refine rn_icmp_eq_t (tgt := 49) hc20 zd_X9_scan_1.1.2.2.2 rfl ?_
        exact rn_sub (ls' := [(0, .ref a0), (1, .ref a1), (3, .int x3), (4, .int r3), (5, .int r5)]) [2, 3, 5, 1, 0] rfl (ok_j_X9_scan_49 hW k_a0 k_a1 h hk)
      · refine rn_icmp_eq_f (tgt := 49) hc20 zd_X9_scan_1.1.2.2.2 rfl ?_
        refine rn_iload 0 rfl zd_X9_scan_1.2.1.1.1 ?_
        refine rn_iconst (v := 3) zd_X9_scan_1.2.1.1.2 rfl ?_
        rcases zif_e h with ⟨hc21, h⟩ | ⟨hc21, h⟩
        · refine rn_icmp_ne_f (tgt := 53) hc21 zd_X9_scan_1.2.1.2.1 rfl ?_
          exact rn_sub (ls' := [(0, .ref a0), (1, .ref a1), (3, .int x3), (4, .int r3), (5, .int r5)]) [2, 3, 5, 1, 0] rfl (ok_j_X9_scan_49 hW k_a0 k_a1 h hk)
        · refine rn_icmp_ne_t (tgt := 53) hc21 zd_X9_scan_1.2.1.2.1 rfl ?_
          exact rn_sub (ls' := [(0, .ref a0), (1, .ref a1), (3, .int x3), (4, .int r3), (5, .int r5)]) [2, 3, 5, 1, 0] rfl (ok_j_X9_scan_53 hW k_a0 k_a1 h hk)
    · refine rn_icmp_ne_t (tgt := 53) hc7 zd_X9_scan_1.1.2.1.1 rfl ?_
      exact rn_sub (ls' := [(0, .ref a0), (1, .ref a1), (3, .int x3), (4, .int r3), (5, .int r5)]) [2, 3, 5, 1, 0] rfl (ok_j_X9_scan_53 hW k_a0 k_a1 h hk)
def j_X9_scan_109 (R : zR) (M : zM) (L : zL) (a0 : Nat) (a1 : Nat) : Option (zM × zL) :=
  zbd (f_X9_close R M L a0 (M a1 1)) fun M25 =>
  some (M25, L)
set_option maxRecDepth 4000 in
theorem ok_j_X9_scan_109 {G : zG} {K : zK} {R : zR} {M : zM} {L : zL} (hW : zWT R K) {a0 : Nat} {a1 : Nat} (k_a0 : K[a0]? = some (9, 6)) (k_a1 : K[a1]? = some (8, 2)) {M' : zM} {L' : zL} (h : j_X9_scan_109 R M L a0 a1 = some (M', L')) : Rn G mt_X9_scan 109 [(0, .ref a0), (1, .ref a1)] [] (M, L, R, K) none (M', L', R, K) := by
  unfold j_X9_scan_109 at h
  refine rn_aload_n (q := 0) 0 rfl zd_X9_scan_3.2.1.2.2 ?_
  refine rn_aload_n (q := 1) 1 rfl zd_X9_scan_3.2.2.1.1 ?_
  refine rn_getI zf_X9_45 (Or.inl rfl) k_a1 zd_X9_scan_3.2.2.1.2 ?_
  obtain ⟨M25, h26, h⟩ := zbd_e h
  refine rn_callVv (As := [.int (M a1 1)]) (rest := []) zl_X9_64 zm_X9_close ⟨by decide, by decide⟩ (ci := 9) rfl rfl (by decide) k_a0 rfl rfl (Nat.le_of_ble_eq_true rfl) zd_X9_scan_3.2.2.2.1 (ok_X9_close hW k_a0 h26) ?_
  cases h
  exact rn_vret zd_X9_scan_3.2.2.2.2 rfl
def f_X9_scan (R : zR) (M : zM) (L : zL) (a0 : Nat) (a1 : Nat) : Option (zM × zL) :=
  zlt (zup M a0 4 (0 : Int32)) fun M1 =>
  zbd (zloop zN (fun v => b_X9_scan_9 R v.2.2.1 v.2.2.2 a0 a1 v.1 v.2.1) ((4 : Int32), (0 : Int32), M1, L)) fun e22 =>
  Sum.elim (fun e23 =>
    j_X9_scan_109 R e23.1 e23.2 a0 a1
  ) (fun e24 =>
    j_X9_scan_109 R e24.1 e24.2 a0 a1
  ) e22
set_option maxRecDepth 4000 in
theorem ok_X9_scan {G : zG} {K : zK} {R : zR} {M : zM} {L : zL} (hW : zWT R K) {a0 : Nat} {a1 : Nat} (k_a0 : K[a0]? = some (9, 6)) (k_a1 : K[a1]? = some (8, 2)) {M' : zM} {L' : zL} (h : f_X9_scan R M L a0 a1 = some (M', L')) : Rm G mt_X9_scan [.ref a0, .ref a1] (M, L, R, K) none (M', L', R, K) := by
  refine rm_rn rfl rfl (Nat.le_of_ble_eq_true rfl) ?_
  show Rn G mt_X9_scan 0 [(0, .ref a0), (1, .ref a1)] [] (M, L, R, K) none (M', L', R, K)
  unfold f_X9_scan at h
  refine rn_aload_n (q := 0) 0 rfl zd_X9_scan_0.1.1.1.1 ?_
  refine rn_iconst (v := 0) zd_X9_scan_0.1.1.1.2 rfl ?_
  obtain ⟨M1, hM1, h⟩ := zlt_e h
  refine rn_putI hM1 zf_X9_41 k_a0 zd_X9_scan_0.1.1.2.1 ?_
  refine rn_iconst (v := 4) zd_X9_scan_0.1.1.2.2 rfl ?_
  refine rn_istore_n (q := 2) (ls' := [(2, .int (4 : Int32)), (0, .ref a0), (1, .ref a1)]) (by decide) rfl zd_X9_scan_0.1.2.1.1 ?_
  refine rn_iconst (v := 0) zd_X9_scan_0.1.2.1.2 rfl ?_
  refine rn_istore_n (q := 3) (ls' := [(3, .int (0 : Int32)), (2, .int (4 : Int32)), (0, .ref a0), (1, .ref a1)]) (by decide) rfl zd_X9_scan_0.1.2.2.1 ?_
  obtain ⟨e22, he22, h⟩ := zbd_e h
  refine rn_sub (ls' := [(0, .ref a0), (1, .ref a1), (2, .int (4 : Int32)), (3, .int (0 : Int32))]) [2, 3, 1, 0] rfl (zloop_ok (P := P_X9_scan_9 G K R a0 a1 none (M', L', R, K)) (Q := Q_X9_scan_9 G K R a0 a1 none (M', L', R, K)) (fun v x hx hq => ok_b_X9_scan_9 hW k_a0 k_a1 hx hq) _ _ _ he22 ?_)
  rcases e22 with e23 | e24
  · rw [Sum.elim_inl] at h
    show Rn G mt_X9_scan 77 [(0, .ref a0), (1, .ref a1)] [] (e23.1, e23.2, R, K) none (M', L', R, K)
    refine rn_goto (tgt := 109) zd_X9_scan_2.2.1.1.2 rfl ?_
    exact rn_sub (ls' := [(0, .ref a0), (1, .ref a1)]) [0, 1] rfl (ok_j_X9_scan_109 hW k_a0 k_a1 h)
  · rw [Sum.elim_inr] at h
    show Rn G mt_X9_scan 109 [(0, .ref a0), (1, .ref a1)] [] (e24.1, e24.2, R, K) none (M', L', R, K)
    exact rn_sub (ls' := [(0, .ref a0), (1, .ref a1)]) [0, 1] rfl (ok_j_X9_scan_109 hW k_a0 k_a1 h)
abbrev P_X6_begin_22 (G : zG) (K : zK) (R : zR) (a0 : Nat) (a1 : Nat) (r : Option Value) (S' : zS) (v : Int32 × zM × zL) : Prop := Rn G mt_X6_begin 22 [(0, .ref a0), (1, .ref a1), (2, .int v.1)] [] (v.2.1, v.2.2, R, K) r S'
abbrev Q_X6_begin_22 (G : zG) (K : zK) (R : zR) (a0 : Nat) (a1 : Nat) (r : Option Value) (S' : zS) : (zM × zL) → Prop := (fun e => Rn G mt_X6_begin 53 [] [] (e.1, e.2, R, K) r S')
def nb_X6_begin_22 (R : zR) (M : zM) (L : zL) (a0 : Nat) (a1 : Nat) (x2 : Int32) : Option ((Int32 × zM × zL) ⊕ ((zM × zL))) :=
  if (M a1 5) ≤ x2 then (
    some (.inr (M, L))
  ) else (
    if (10 : Int32) ≤ x2 then (
      some (.inr (M, L))
    ) else (
      zck (zin x2 10) <|
      zbd2 (n_X6_insert R M L a0 x2 (M (R a1 2) (ztn x2))) fun M8 L9 =>
      some (.inl ((x2 + 1), M8, L9))
    )
  )
set_option maxRecDepth 4000 in
theorem ok_b_X6_begin_22 {G : zG} {K : zK} {R : zR} {M : zM} {L : zL} (hW : zWT R K) {a0 : Nat} {a1 : Nat} {x2 : Int32} (k_a0 : K[a0]? = some (6, 8)) (k_a1 : K[a1]? = some (7, 11)) {r : Option Value} {S' : zS} {x : (Int32 × zM × zL) ⊕ ((zM × zL))} (h : nb_X6_begin_22 R M L a0 a1 x2 = some x) (hk : Sum.elim (P_X6_begin_22 G K R a0 a1 r S') (Q_X6_begin_22 G K R a0 a1 r S') x) : P_X6_begin_22 G K R a0 a1 r S' (x2, M, L) := by
  show Rn G mt_X6_begin 22 [(0, .ref a0), (1, .ref a1), (2, .int x2)] [] (M, L, R, K) r S'
  unfold nb_X6_begin_22 at h
  refine rn_iload_n (q := 2) 2 rfl zd_X6_begin_0.2.2.2.1 ?_
  refine rn_aload_n (q := 1) 1 rfl zd_X6_begin_0.2.2.2.2 ?_
  refine rn_getI zf_X6_38 (Or.inl rfl) k_a1 zd_X6_begin_1.1.1.1 ?_
  rcases zif_e h with ⟨hc5, h⟩ | ⟨hc5, h⟩
  · refine rn_icmp_ge_t (tgt := 53) hc5 zd_X6_begin_1.1.1.2.1 rfl ?_
    cases h
    exact rn_sub (ls' := []) [] rfl hk
  · refine rn_icmp_ge_f (tgt := 53) hc5 zd_X6_begin_1.1.1.2.1 rfl ?_
    refine rn_iload_n (q := 2) 2 rfl zd_X6_begin_1.1.1.2.2 ?_
    refine rn_bipush (v := 10) zd_X6_begin_1.1.2.1.1 rfl ?_
    rcases zif_e h with ⟨hc6, h⟩ | ⟨hc6, h⟩
    · refine rn_icmp_ge_t (tgt := 53) hc6 zd_X6_begin_1.1.2.1.2 rfl ?_
      cases h
      exact rn_sub (ls' := []) [] rfl hk
    · refine rn_icmp_ge_f (tgt := 53) hc6 zd_X6_begin_1.1.2.1.2 rfl ?_
      refine rn_aload_n (q := 0) 0 rfl zd_X6_begin_1.1.2.2.1 ?_
      refine rn_iload_n (q := 2) 2 rfl zd_X6_begin_1.1.2.2.2 ?_
      refine rn_aload_n (q := 1) 1 rfl zd_X6_begin_1.2.1.1.1 ?_
      refine rn_getR zf_X6_41 (Or.inr ⟨_, rfl⟩) k_a1 (zx_7_2 hW k_a1) zd_X6_begin_1.2.1.1.2 ?_
      refine rn_iload_n (q := 2) 2 rfl zd_X6_begin_1.2.1.2.1 ?_
      obtain ⟨hc7, h⟩ := zck_e h
      refine rn_iald (zw_7_2 hW k_a1) hc7 zd_X6_begin_1.2.1.2.2 ?_
      obtain ⟨M8, L9, h10, h⟩ := zbd2_e h
      refine rn_callVv (As := [.int x2, .int (M (R a1 2) (ztn x2))]) (rest := []) zl_X6_44 zm_X6_insert ⟨by decide, by decide⟩ (ci := 6) rfl rfl (by decide) k_a0 rfl rfl (Nat.le_of_ble_eq_true rfl) zd_X6_begin_1.2.2.1.1 (ok_X6_insert hW k_a0 h10) ?_
      refine rn_iinc (v := (x2 + 1)) (ls' := [(2, .int (x2 + 1)), (0, .ref a0), (1, .ref a1)]) 2 rfl rfl (by decide) rfl zd_X6_begin_1.2.2.1.2 ?_
      refine rn_goto (tgt := 22) zd_X6_begin_1.2.2.2.1 rfl ?_
      cases h
      exact rn_sub (ls' := [(0, .ref a0), (1, .ref a1), (2, .int (x2 + 1))]) [1, 2, 0] rfl hk
def n_X6_begin (R : zR) (M : zM) (L : zL) (a0 : Nat) (a1 : Nat) : Option (zM × zL) :=
  zlt (zup M a0 4 (0 : Int32)) fun M1 =>
  zlt (zup M1 a0 5 (0 : Int32)) fun M2 =>
  zlt (zup M2 a0 6 (0 : Int32)) fun M3 =>
  zlt (zup M3 a0 7 (0 : Int32)) fun M4 =>
  zbd (zloop zN (fun v => nb_X6_begin_22 R v.2.1 v.2.2 a0 a1 v.1) ((0 : Int32), M4, L)) fun e11 =>
  some (e11.1, e11.2)
set_option maxRecDepth 4000 in
theorem ok_X6_begin {G : zG} {K : zK} {R : zR} {M : zM} {L : zL} (hW : zWT R K) {a0 : Nat} {a1 : Nat} (k_a0 : K[a0]? = some (6, 8)) (k_a1 : K[a1]? = some (7, 11)) {M' : zM} {L' : zL} (h : n_X6_begin R M L a0 a1 = some (M', L')) : Rm G mt_X6_begin [.ref a0, .ref a1] (M, L, R, K) none (M', L', R, K) := by
  refine rm_rn rfl rfl (Nat.le_of_ble_eq_true rfl) ?_
  show Rn G mt_X6_begin 0 [(0, .ref a0), (1, .ref a1)] [] (M, L, R, K) none (M', L', R, K)
  unfold n_X6_begin at h
  refine rn_aload_n (q := 0) 0 rfl zd_X6_begin_0.1.1.1.1 ?_
  refine rn_iconst (v := 0) zd_X6_begin_0.1.1.1.2 rfl ?_
  obtain ⟨M1, hM1, h⟩ := zlt_e h
  refine rn_putI hM1 zf_X6_25 k_a0 zd_X6_begin_0.1.1.2.1 ?_
  refine rn_aload_n (q := 0) 0 rfl zd_X6_begin_0.1.1.2.2 ?_
  refine rn_iconst (v := 0) zd_X6_begin_0.1.2.1.1 rfl ?_
  obtain ⟨M2, hM2, h⟩ := zlt_e h
  refine rn_putI hM2 zf_X6_29 k_a0 zd_X6_begin_0.1.2.1.2 ?_
  refine rn_aload_n (q := 0) 0 rfl zd_X6_begin_0.1.2.2.1 ?_
  refine rn_iconst (v := 0) zd_X6_begin_0.1.2.2.2 rfl ?_
  obtain ⟨M3, hM3, h⟩ := zlt_e h
  refine rn_putI hM3 zf_X6_32 k_a0 zd_X6_begin_0.2.1.1.1 ?_
  refine rn_aload_n (q := 0) 0 rfl zd_X6_begin_0.2.1.1.2 ?_
  refine rn_iconst (v := 0) zd_X6_begin_0.2.1.2.1 rfl ?_
  obtain ⟨M4, hM4, h⟩ := zlt_e h
  refine rn_putI hM4 zf_X6_35 k_a0 zd_X6_begin_0.2.1.2.2 ?_
  refine rn_iconst (v := 0) zd_X6_begin_0.2.2.1.1 rfl ?_
  refine rn_istore_n (q := 2) (ls' := [(2, .int (0 : Int32)), (0, .ref a0), (1, .ref a1)]) (by decide) rfl zd_X6_begin_0.2.2.1.2 ?_
  obtain ⟨e11, he11, h⟩ := zbd_e h
  refine rn_sub (ls' := [(0, .ref a0), (1, .ref a1), (2, .int (0 : Int32))]) [1, 2, 0] rfl (zloop_ok (P := P_X6_begin_22 G K R a0 a1 none (M', L', R, K)) (Q := Q_X6_begin_22 G K R a0 a1 none (M', L', R, K)) (fun v x hx hq => ok_b_X6_begin_22 hW k_a0 k_a1 hx hq) _ _ _ he11 ?_)
  show Rn G mt_X6_begin 53 [] [] (e11.1, e11.2, R, K) none (M', L', R, K)
  cases h
  exact rn_vret zd_X6_begin_1.2.2.2.2 rfl
abbrev P_X6_total_4 (G : zG) (K : zK) (R : zR) (M : zM) (L : zL) (a0 : Nat) (r : Option Value) (S' : zS) (v : Int32 × Int32) : Prop := Rn G mt_X6_total 4 [(0, .ref a0), (1, .int v.1), (2, .int v.2)] [] (M, L, R, K) r S'
abbrev Q_X6_total_4 (G : zG) (K : zK) (R : zR) (M : zM) (L : zL) (a0 : Nat) (r : Option Value) (S' : zS) : (Int32) → Prop := (fun e => Rn G mt_X6_total 33 [(1, .int e)] [] (M, L, R, K) r S')
def b_X6_total_4 (R : zR) (M : zM) (a0 : Nat) (x1 : Int32) (x2 : Int32) : Option ((Int32 × Int32) ⊕ ((Int32))) :=
  if (10 : Int32) ≤ x2 then (
    some (.inr x1)
  ) else (
    zbd (f_X6_has M a0 x2) fun r2 =>
    if r2 = 0 then (
      some (.inr x1)
    ) else (
      zck (zin x2 10) <|
      some (.inl ((x1 + (M (R a0 0) (ztn x2))), (x2 + 1)))
    )
  )
set_option maxRecDepth 4000 in
theorem ok_b_X6_total_4 {G : zG} {K : zK} {R : zR} {M : zM} {L : zL} (hW : zWT R K) {a0 : Nat} {x1 : Int32} {x2 : Int32} (k_a0 : K[a0]? = some (6, 8)) {r : Option Value} {S' : zS} {x : (Int32 × Int32) ⊕ ((Int32))} (h : b_X6_total_4 R M a0 x1 x2 = some x) (hk : Sum.elim (P_X6_total_4 G K R M L a0 r S') (Q_X6_total_4 G K R M L a0 r S') x) : P_X6_total_4 G K R M L a0 r S' (x1, x2) := by
  show Rn G mt_X6_total 4 [(0, .ref a0), (1, .int x1), (2, .int x2)] [] (M, L, R, K) r S'
  unfold b_X6_total_4 at h
  refine rn_iload_n (q := 2) 2 rfl zd_X6_total_0.1.2.1.1 ?_
  refine rn_bipush (v := 10) zd_X6_total_0.1.2.1.2 rfl ?_
  rcases zif_e h with ⟨hc1, h⟩ | ⟨hc1, h⟩
  · refine rn_icmp_ge_t (tgt := 33) hc1 zd_X6_total_0.1.2.2.1 rfl ?_
    cases h
    exact rn_sub (ls' := [(1, .int x1)]) [1] rfl hk
  · refine rn_icmp_ge_f (tgt := 33) hc1 zd_X6_total_0.1.2.2.1 rfl ?_
    refine rn_aload_n (q := 0) 0 rfl zd_X6_total_0.1.2.2.2 ?_
    refine rn_iload_n (q := 2) 2 rfl zd_X6_total_0.2.1.1.1 ?_
    obtain ⟨r2, h3, h⟩ := zbd_e h
    refine rn_callVi (As := [.int x2]) (rest := []) zl_X6_48 zm_X6_has ⟨by decide, by decide⟩ (ci := 6) rfl rfl (by decide) k_a0 rfl rfl (Nat.le_of_ble_eq_true rfl) zd_X6_total_0.2.1.1.2 (ok_X6_has hW k_a0 h3) ?_
    rcases zif_e h with ⟨hc4, h⟩ | ⟨hc4, h⟩
    · refine rn_if_eq_t (tgt := 33) hc4 zd_X6_total_0.2.1.2.1 rfl ?_
      cases h
      exact rn_sub (ls' := [(1, .int x1)]) [1] rfl hk
    · refine rn_if_eq_f (tgt := 33) hc4 zd_X6_total_0.2.1.2.1 rfl ?_
      refine rn_iload_n (q := 1) 1 rfl zd_X6_total_0.2.1.2.2 ?_
      refine rn_aload_n (q := 0) 0 rfl zd_X6_total_0.2.2.1.1 ?_
      refine rn_getR zf_X6_9 (Or.inr ⟨_, rfl⟩) k_a0 (zx_6_0 hW k_a0) zd_X6_total_0.2.2.1.2 ?_
      refine rn_iload_n (q := 2) 2 rfl zd_X6_total_0.2.2.2.1 ?_
      obtain ⟨hc5, h⟩ := zck_e h
      refine rn_iald (zw_6_0 hW k_a0) hc5 zd_X6_total_0.2.2.2.2 ?_
      refine rn_iadd zd_X6_total_1.1.1 ?_
      refine rn_istore_n (q := 1) (ls' := [(1, .int (x1 + (M (R a0 0) (ztn x2)))), (0, .ref a0), (2, .int x2)]) (by decide) rfl zd_X6_total_1.1.2.1 ?_
      refine rn_iinc (v := (x2 + 1)) (ls' := [(2, .int (x2 + 1)), (1, .int (x1 + (M (R a0 0) (ztn x2)))), (0, .ref a0)]) 2 rfl rfl (by decide) rfl zd_X6_total_1.1.2.2 ?_
      refine rn_goto (tgt := 4) zd_X6_total_1.2.1 rfl ?_
      cases h
      exact rn_sub (ls' := [(0, .ref a0), (1, .int (x1 + (M (R a0 0) (ztn x2)))), (2, .int (x2 + 1))]) [2, 1, 0] rfl hk
def f_X6_total (R : zR) (M : zM) (a0 : Nat) : Option (Int32) :=
  zbd (zloop zN (fun v => b_X6_total_4 R M a0 v.1 v.2) ((0 : Int32), (0 : Int32))) fun e6 =>
  some e6
set_option maxRecDepth 4000 in
theorem ok_X6_total {G : zG} {K : zK} {R : zR} {M : zM} {L : zL} (hW : zWT R K) {a0 : Nat} (k_a0 : K[a0]? = some (6, 8)) {r' : Int32} (h : f_X6_total R M a0 = some r') : Rm G mt_X6_total [.ref a0] (M, L, R, K) (some (.int r')) (M, L, R, K) := by
  refine rm_rn rfl rfl (Nat.le_of_ble_eq_true rfl) ?_
  show Rn G mt_X6_total 0 [(0, .ref a0)] [] (M, L, R, K) (some (.int r')) (M, L, R, K)
  unfold f_X6_total at h
  refine rn_iconst (v := 0) zd_X6_total_0.1.1.1.1 rfl ?_
  refine rn_istore_n (q := 1) (ls' := [(1, .int (0 : Int32)), (0, .ref a0)]) (by decide) rfl zd_X6_total_0.1.1.1.2 ?_
  refine rn_iconst (v := 0) zd_X6_total_0.1.1.2.1 rfl ?_
  refine rn_istore_n (q := 2) (ls' := [(2, .int (0 : Int32)), (1, .int (0 : Int32)), (0, .ref a0)]) (by decide) rfl zd_X6_total_0.1.1.2.2 ?_
  obtain ⟨e6, he6, h⟩ := zbd_e h
  refine rn_sub (ls' := [(0, .ref a0), (1, .int (0 : Int32)), (2, .int (0 : Int32))]) [2, 1, 0] rfl (zloop_ok (P := P_X6_total_4 G K R M L a0 (some (.int r')) (M, L, R, K)) (Q := Q_X6_total_4 G K R M L a0 (some (.int r')) (M, L, R, K)) (fun v x hx hq => ok_b_X6_total_4 hW k_a0 hx hq) _ _ _ he6 ?_)
  show Rn G mt_X6_total 33 [(1, .int e6)] [] (M, L, R, K) (some (.int r')) (M, L, R, K)
  refine rn_iload_n (q := 1) 0 rfl zd_X6_total_1.2.2.1 ?_
  cases h
  exact rn_iret zd_X6_total_1.2.2.2 rfl
abbrev P_X6_remove_13 (G : zG) (K : zK) (R : zR) (a0 : Nat) (r : Option Value) (S' : zS) (v : Int32 × zM × zL) : Prop := Rn G mt_X6_remove 13 [(0, .ref a0), (2, .int v.1)] [] (v.2.1, v.2.2, R, K) r S'
abbrev Q_X6_remove_13 (G : zG) (K : zK) (R : zR) (a0 : Nat) (r : Option Value) (S' : zS) : (zM × zL) → Prop := (fun e => Rn G mt_X6_remove 41 [(0, .ref a0)] [] (e.1, e.2, R, K) r S')
def nb_X6_remove_13 (R : zR) (M : zM) (L : zL) (a0 : Nat) (x2 : Int32) : Option ((Int32 × zM × zL) ⊕ ((zM × zL))) :=
  if (10 : Int32) ≤ x2 then (
    some (.inr (M, L))
  ) else (
    zbd (f_X6_has M a0 x2) fun r5 =>
    if r5 = 0 then (
      some (.inr (M, L))
    ) else (
      zbd2 (n_X6_copyHouse R M L a0 x2 (x2 - (1 : Int32))) fun M8 L9 =>
      some (.inl ((x2 + 1), M8, L9))
    )
  )
set_option maxRecDepth 4000 in
theorem ok_b_X6_remove_13 {G : zG} {K : zK} {R : zR} {M : zM} {L : zL} (hW : zWT R K) {a0 : Nat} {x2 : Int32} (k_a0 : K[a0]? = some (6, 8)) {r : Option Value} {S' : zS} {x : (Int32 × zM × zL) ⊕ ((zM × zL))} (h : nb_X6_remove_13 R M L a0 x2 = some x) (hk : Sum.elim (P_X6_remove_13 G K R a0 r S') (Q_X6_remove_13 G K R a0 r S') x) : P_X6_remove_13 G K R a0 r S' (x2, M, L) := by
  show Rn G mt_X6_remove 13 [(0, .ref a0), (2, .int x2)] [] (M, L, R, K) r S'
  unfold nb_X6_remove_13 at h
  refine rn_iload_n (q := 2) 1 rfl zd_X6_remove_0.2.1.1.2 ?_
  refine rn_bipush (v := 10) zd_X6_remove_0.2.1.2.1 rfl ?_
  rcases zif_e h with ⟨hc4, h⟩ | ⟨hc4, h⟩
  · refine rn_icmp_ge_t (tgt := 41) hc4 zd_X6_remove_0.2.1.2.2 rfl ?_
    cases h
    exact rn_sub (ls' := [(0, .ref a0)]) [0] rfl hk
  · refine rn_icmp_ge_f (tgt := 41) hc4 zd_X6_remove_0.2.1.2.2 rfl ?_
    refine rn_aload_n (q := 0) 0 rfl zd_X6_remove_0.2.2.1.1 ?_
    refine rn_iload_n (q := 2) 1 rfl zd_X6_remove_0.2.2.1.2 ?_
    obtain ⟨r5, h6, h⟩ := zbd_e h
    refine rn_callVi (As := [.int x2]) (rest := []) zl_X6_48 zm_X6_has ⟨by decide, by decide⟩ (ci := 6) rfl rfl (by decide) k_a0 rfl rfl (Nat.le_of_ble_eq_true rfl) zd_X6_remove_0.2.2.2.1 (ok_X6_has hW k_a0 h6) ?_
    rcases zif_e h with ⟨hc7, h⟩ | ⟨hc7, h⟩
    · refine rn_if_eq_t (tgt := 41) hc7 zd_X6_remove_0.2.2.2.2 rfl ?_
      cases h
      exact rn_sub (ls' := [(0, .ref a0)]) [0] rfl hk
    · refine rn_if_eq_f (tgt := 41) hc7 zd_X6_remove_0.2.2.2.2 rfl ?_
      refine rn_aload_n (q := 0) 0 rfl zd_X6_remove_1.1.1.1 ?_
      refine rn_iload_n (q := 2) 1 rfl zd_X6_remove_1.1.1.2.1 ?_
      refine rn_iload_n (q := 2) 1 rfl zd_X6_remove_1.1.1.2.2 ?_
      refine rn_iconst (v := 1) zd_X6_remove_1.1.2.1.1 rfl ?_
      refine rn_isub zd_X6_remove_1.1.2.1.2 ?_
      obtain ⟨M8, L9, h10, h⟩ := zbd2_e h
      refine rn_callVv (As := [.int x2, .int (x2 - (1 : Int32))]) (rest := []) zl_X6_72 zm_X6_copyHouse ⟨by decide, by decide⟩ (ci := 6) rfl rfl (by decide) k_a0 rfl rfl (Nat.le_of_ble_eq_true rfl) zd_X6_remove_1.1.2.2.1 (ok_X6_copyHouse hW k_a0 h10) ?_
      refine rn_iinc (v := (x2 + 1)) (ls' := [(2, .int (x2 + 1)), (0, .ref a0)]) 1 rfl rfl (by decide) rfl zd_X6_remove_1.1.2.2.2 ?_
      refine rn_goto (tgt := 13) zd_X6_remove_1.2.1.1.1 rfl ?_
      cases h
      exact rn_sub (ls' := [(0, .ref a0), (2, .int (x2 + 1))]) [1, 0] rfl hk
def n_X6_remove (R : zR) (M : zM) (L : zL) (a0 : Nat) (x1 : Int32) : Option (zM × zL) :=
  zbd (f_X6_has M a0 x1) fun r1 =>
  if r1 = 0 then (
    some (M, L)
  ) else (
    zbd (zloop zN (fun v => nb_X6_remove_13 R v.2.1 v.2.2 a0 v.1) ((x1 + (1 : Int32)), M, L)) fun e11 =>
    zlt (zup e11.1 a0 4 ((e11.1 a0 4) - (1 : Int32))) fun M12 =>
    some (M12, e11.2)
  )
set_option maxRecDepth 4000 in
theorem ok_X6_remove {G : zG} {K : zK} {R : zR} {M : zM} {L : zL} (hW : zWT R K) {a0 : Nat} {x1 : Int32} (k_a0 : K[a0]? = some (6, 8)) {M' : zM} {L' : zL} (h : n_X6_remove R M L a0 x1 = some (M', L')) : Rm G mt_X6_remove [.ref a0, .int x1] (M, L, R, K) none (M', L', R, K) := by
  refine rm_rn rfl rfl (Nat.le_of_ble_eq_true rfl) ?_
  show Rn G mt_X6_remove 0 [(0, .ref a0), (1, .int x1)] [] (M, L, R, K) none (M', L', R, K)
  unfold n_X6_remove at h
  refine rn_aload_n (q := 0) 0 rfl zd_X6_remove_0.1.1.1.1 ?_
  refine rn_iload_n (q := 1) 1 rfl zd_X6_remove_0.1.1.1.2 ?_
  obtain ⟨r1, h2, h⟩ := zbd_e h
  refine rn_callVi (As := [.int x1]) (rest := []) zl_X6_48 zm_X6_has ⟨by decide, by decide⟩ (ci := 6) rfl rfl (by decide) k_a0 rfl rfl (Nat.le_of_ble_eq_true rfl) zd_X6_remove_0.1.1.2.1 (ok_X6_has hW k_a0 h2) ?_
  rcases zif_e h with ⟨hc3, h⟩ | ⟨hc3, h⟩
  · refine rn_if_ne_f (tgt := 9) hc3 zd_X6_remove_0.1.1.2.2 rfl ?_
    cases h
    exact rn_vret zd_X6_remove_0.1.2.1.1 rfl
  · refine rn_if_ne_t (tgt := 9) hc3 zd_X6_remove_0.1.1.2.2 rfl ?_
    refine rn_iload_n (q := 1) 1 rfl zd_X6_remove_0.1.2.1.2 ?_
    refine rn_iconst (v := 1) zd_X6_remove_0.1.2.2.1 rfl ?_
    refine rn_iadd zd_X6_remove_0.1.2.2.2 ?_
    refine rn_istore_n (q := 2) (ls' := [(2, .int (x1 + (1 : Int32))), (0, .ref a0), (1, .int x1)]) (by decide) rfl zd_X6_remove_0.2.1.1.1 ?_
    obtain ⟨e11, he11, h⟩ := zbd_e h
    refine rn_sub (ls' := [(0, .ref a0), (2, .int (x1 + (1 : Int32)))]) [1, 0] rfl (zloop_ok (P := P_X6_remove_13 G K R a0 none (M', L', R, K)) (Q := Q_X6_remove_13 G K R a0 none (M', L', R, K)) (fun v x hx hq => ok_b_X6_remove_13 hW k_a0 hx hq) _ _ _ he11 ?_)
    show Rn G mt_X6_remove 41 [(0, .ref a0)] [] (e11.1, e11.2, R, K) none (M', L', R, K)
    refine rn_aload_n (q := 0) 0 rfl zd_X6_remove_1.2.1.1.2 ?_
    refine rn_dup zd_X6_remove_1.2.1.2.1 rfl ?_
    refine rn_getI zf_X6_25 (Or.inl rfl) k_a0 zd_X6_remove_1.2.1.2.2 ?_
    refine rn_iconst (v := 1) zd_X6_remove_1.2.2.1.1 rfl ?_
    refine rn_isub zd_X6_remove_1.2.2.1.2 ?_
    obtain ⟨M12, hM12, h⟩ := zlt_e h
    refine rn_putI hM12 zf_X6_25 k_a0 zd_X6_remove_1.2.2.2.1 ?_
    cases h
    exact rn_vret zd_X6_remove_1.2.2.2.2 rfl
def n_X6_merge (R : zR) (M : zM) (L : zL) (a0 : Nat) (x1 : Int32) (x2 : Int32) : Option (zM × zL) :=
  zbd (f_X6_has M a0 x1) fun r1 =>
  if r1 = 0 then (
    some (M, L)
  ) else (
    zbd (f_X6_has M a0 x2) fun r4 =>
    if r4 = 0 then (
      some (M, L)
    ) else (
      zck (zin x1 10) <|
      zck (zin x2 10) <|
      zck (zin x1 10) <|
      zlt (zup M (R a0 0) (ztn x1) ((M (R a0 0) (ztn x1)) + (M (R a0 0) (ztn x2)))) fun M10 =>
      zck (zin x1 10) <|
      zck (zin x2 10) <|
      zck (zin x1 10) <|
      zlt (zup M10 (R a0 1) (ztn x1) ((M10 (R a0 1) (ztn x1)) + (M10 (R a0 1) (ztn x2)))) fun M14 =>
      zck (zin x1 10) <|
      zck (zin x2 10) <|
      zck (zin x1 10) <|
      zlt (zup M14 (R a0 2) (ztn x1) ((M14 (R a0 2) (ztn x1)) + (M14 (R a0 2) (ztn x2)))) fun M18 =>
      zck (zin x1 10) <|
      zck (zin x2 10) <|
      zck (zin x1 10) <|
      zlt (zupL L (R a0 3) (ztn x1) ((L (R a0 3) (ztn x1)) + (L (R a0 3) (ztn x2)))) fun L22 =>
      zbd2 (n_X6_remove R M18 L22 a0 x2) fun M23 L24 =>
      some (M23, L24)
    )
  )
set_option maxRecDepth 4000 in
theorem ok_X6_merge {G : zG} {K : zK} {R : zR} {M : zM} {L : zL} (hW : zWT R K) {a0 : Nat} {x1 : Int32} {x2 : Int32} (k_a0 : K[a0]? = some (6, 8)) {M' : zM} {L' : zL} (h : n_X6_merge R M L a0 x1 x2 = some (M', L')) : Rm G mt_X6_merge [.ref a0, .int x1, .int x2] (M, L, R, K) none (M', L', R, K) := by
  refine rm_rn rfl rfl (Nat.le_of_ble_eq_true rfl) ?_
  show Rn G mt_X6_merge 0 [(0, .ref a0), (1, .int x1), (2, .int x2)] [] (M, L, R, K) none (M', L', R, K)
  unfold n_X6_merge at h
  refine rn_aload_n (q := 0) 0 rfl zd_X6_merge_0.1.1.1.1 ?_
  refine rn_iload_n (q := 1) 1 rfl zd_X6_merge_0.1.1.1.2 ?_
  obtain ⟨r1, h2, h⟩ := zbd_e h
  refine rn_callVi (As := [.int x1]) (rest := []) zl_X6_48 zm_X6_has ⟨by decide, by decide⟩ (ci := 6) rfl rfl (by decide) k_a0 rfl rfl (Nat.le_of_ble_eq_true rfl) zd_X6_merge_0.1.1.2.1 (ok_X6_has hW k_a0 h2) ?_
  rcases zif_e h with ⟨hc3, h⟩ | ⟨hc3, h⟩
  · refine rn_if_eq_t (tgt := 16) hc3 zd_X6_merge_0.1.1.2.2 rfl ?_
    cases h
    exact rn_vret zd_X6_merge_0.2.1.1.1 rfl
  · refine rn_if_eq_f (tgt := 16) hc3 zd_X6_merge_0.1.1.2.2 rfl ?_
    refine rn_aload_n (q := 0) 0 rfl zd_X6_merge_0.1.2.1.1 ?_
    refine rn_iload_n (q := 2) 2 rfl zd_X6_merge_0.1.2.1.2 ?_
    obtain ⟨r4, h5, h⟩ := zbd_e h
    refine rn_callVi (As := [.int x2]) (rest := []) zl_X6_48 zm_X6_has ⟨by decide, by decide⟩ (ci := 6) rfl rfl (by decide) k_a0 rfl rfl (Nat.le_of_ble_eq_true rfl) zd_X6_merge_0.1.2.2.1 (ok_X6_has hW k_a0 h5) ?_
    rcases zif_e h with ⟨hc6, h⟩ | ⟨hc6, h⟩
    · refine rn_if_ne_f (tgt := 17) hc6 zd_X6_merge_0.1.2.2.2 rfl ?_
      cases h
      exact rn_vret zd_X6_merge_0.2.1.1.1 rfl
    · refine rn_if_ne_t (tgt := 17) hc6 zd_X6_merge_0.1.2.2.2 rfl ?_
      refine rn_aload_n (q := 0) 0 rfl zd_X6_merge_0.2.1.1.2 ?_
      refine rn_getR zf_X6_9 (Or.inr ⟨_, rfl⟩) k_a0 (zx_6_0 hW k_a0) zd_X6_merge_0.2.1.2.1 ?_
      refine rn_iload_n (q := 1) 1 rfl zd_X6_merge_0.2.1.2.2 ?_
      refine rn_dup2 zd_X6_merge_0.2.2.1.1 rfl rfl ?_
      obtain ⟨hc7, h⟩ := zck_e h
      refine rn_iald (zw_6_0 hW k_a0) hc7 zd_X6_merge_0.2.2.1.2 ?_
      refine rn_aload_n (q := 0) 0 rfl zd_X6_merge_0.2.2.2.1 ?_
      refine rn_getR zf_X6_9 (Or.inr ⟨_, rfl⟩) k_a0 (zx_6_0 hW k_a0) zd_X6_merge_0.2.2.2.2 ?_
      refine rn_iload_n (q := 2) 2 rfl zd_X6_merge_1.1.1.1.1 ?_
      obtain ⟨hc8, h⟩ := zck_e h
      refine rn_iald (zw_6_0 hW k_a0) hc8 zd_X6_merge_1.1.1.1.2 ?_
      refine rn_iadd zd_X6_merge_1.1.1.2.1 ?_
      obtain ⟨hc9, h⟩ := zck_e h
      obtain ⟨M10, hM10, h⟩ := zlt_e h
      refine rn_iast hM10 (zw_6_0 hW k_a0) hc9 zd_X6_merge_1.1.1.2.2 ?_
      refine rn_aload_n (q := 0) 0 rfl zd_X6_merge_1.1.2.1.1 ?_
      refine rn_getR zf_X6_15 (Or.inr ⟨_, rfl⟩) k_a0 (zx_6_1 hW k_a0) zd_X6_merge_1.1.2.1.2 ?_
      refine rn_iload_n (q := 1) 1 rfl zd_X6_merge_1.1.2.2.1 ?_
      refine rn_dup2 zd_X6_merge_1.1.2.2.2 rfl rfl ?_
      obtain ⟨hc11, h⟩ := zck_e h
      refine rn_iald (zw_6_1 hW k_a0) hc11 zd_X6_merge_1.2.1.1.1 ?_
      refine rn_aload_n (q := 0) 0 rfl zd_X6_merge_1.2.1.1.2 ?_
      refine rn_getR zf_X6_15 (Or.inr ⟨_, rfl⟩) k_a0 (zx_6_1 hW k_a0) zd_X6_merge_1.2.1.2.1 ?_
      refine rn_iload_n (q := 2) 2 rfl zd_X6_merge_1.2.1.2.2 ?_
      obtain ⟨hc12, h⟩ := zck_e h
      refine rn_iald (zw_6_1 hW k_a0) hc12 zd_X6_merge_1.2.2.1.1 ?_
      refine rn_iadd zd_X6_merge_1.2.2.1.2 ?_
      obtain ⟨hc13, h⟩ := zck_e h
      obtain ⟨M14, hM14, h⟩ := zlt_e h
      refine rn_iast hM14 (zw_6_1 hW k_a0) hc13 zd_X6_merge_1.2.2.2.1 ?_
      refine rn_aload_n (q := 0) 0 rfl zd_X6_merge_1.2.2.2.2 ?_
      refine rn_getR zf_X6_18 (Or.inr ⟨_, rfl⟩) k_a0 (zx_6_2 hW k_a0) zd_X6_merge_2.1.1.1.1 ?_
      refine rn_iload_n (q := 1) 1 rfl zd_X6_merge_2.1.1.1.2 ?_
      refine rn_dup2 zd_X6_merge_2.1.1.2.1 rfl rfl ?_
      obtain ⟨hc15, h⟩ := zck_e h
      refine rn_iald (zw_6_2 hW k_a0) hc15 zd_X6_merge_2.1.1.2.2 ?_
      refine rn_aload_n (q := 0) 0 rfl zd_X6_merge_2.1.2.1.1 ?_
      refine rn_getR zf_X6_18 (Or.inr ⟨_, rfl⟩) k_a0 (zx_6_2 hW k_a0) zd_X6_merge_2.1.2.1.2 ?_
      refine rn_iload_n (q := 2) 2 rfl zd_X6_merge_2.1.2.2.1 ?_
      obtain ⟨hc16, h⟩ := zck_e h
      refine rn_iald (zw_6_2 hW k_a0) hc16 zd_X6_merge_2.1.2.2.2 ?_
      refine rn_iadd zd_X6_merge_2.2.1.1.1 ?_
      obtain ⟨hc17, h⟩ := zck_e h
      obtain ⟨M18, hM18, h⟩ := zlt_e h
      refine rn_iast hM18 (zw_6_2 hW k_a0) hc17 zd_X6_merge_2.2.1.1.2 ?_
      refine rn_aload_n (q := 0) 0 rfl zd_X6_merge_2.2.1.2.1 ?_
      refine rn_getR zf_X6_21 (Or.inr ⟨_, rfl⟩) k_a0 (zx_6_3 hW k_a0) zd_X6_merge_2.2.1.2.2 ?_
      refine rn_iload_n (q := 1) 1 rfl zd_X6_merge_2.2.2.1.1 ?_
      refine rn_dup2 zd_X6_merge_2.2.2.1.2 rfl rfl ?_
      obtain ⟨hc19, h⟩ := zck_e h
      refine rn_lald (zw_6_3 hW k_a0) hc19 zd_X6_merge_2.2.2.2.1 ?_
      refine rn_aload_n (q := 0) 0 rfl zd_X6_merge_2.2.2.2.2 ?_
      refine rn_getR zf_X6_21 (Or.inr ⟨_, rfl⟩) k_a0 (zx_6_3 hW k_a0) zd_X6_merge_3.1.1.1 ?_
      refine rn_iload_n (q := 2) 2 rfl zd_X6_merge_3.1.1.2 ?_
      obtain ⟨hc20, h⟩ := zck_e h
      refine rn_lald (zw_6_3 hW k_a0) hc20 zd_X6_merge_3.1.2.1 ?_
      refine rn_ladd zd_X6_merge_3.1.2.2 ?_
      obtain ⟨hc21, h⟩ := zck_e h
      obtain ⟨L22, hL22, h⟩ := zlt_e h
      refine rn_last hL22 (zw_6_3 hW k_a0) hc21 zd_X6_merge_3.2.1.1 ?_
      refine rn_aload_n (q := 0) 0 rfl zd_X6_merge_3.2.1.2 ?_
      refine rn_iload_n (q := 2) 2 rfl zd_X6_merge_3.2.2.1 ?_
      obtain ⟨M23, L24, h25, h⟩ := zbd2_e h
      refine rn_callVv (As := [.int x2]) (rest := []) zl_X6_75 zm_X6_remove ⟨by decide, by decide⟩ (ci := 6) rfl rfl (by decide) k_a0 rfl rfl (Nat.le_of_ble_eq_true rfl) zd_X6_merge_3.2.2.2.1 (ok_X6_remove hW k_a0 h25) ?_
      cases h
      exact rn_vret zd_X6_merge_3.2.2.2.2 rfl
def f_X7_gapOf (R : zR) (M : zM) (a0 : Nat) (a1 : Nat) (x2 : Int32) : Option (Int32 × zM) :=
  zbd (f_X6_has M a1 x2) fun r1 =>
  if r1 = 0 then (
    some ((0 : Int32), M)
  ) else (
    zbd (f_X7_look R M a0 a1 x2 (0 : Int32)) fun M4 =>
    some ((M4 (R a0 3) (ztn (3 : Int32))), M4)
  )
set_option maxRecDepth 4000 in
theorem ok_X7_gapOf {G : zG} {K : zK} {R : zR} {M : zM} {L : zL} (hW : zWT R K) {a0 : Nat} {a1 : Nat} {x2 : Int32} (k_a0 : K[a0]? = some (7, 11)) (k_a1 : K[a1]? = some (6, 8)) {r' : Int32} {M' : zM} (h : f_X7_gapOf R M a0 a1 x2 = some (r', M')) : Rm G mt_X7_gapOf [.ref a0, .ref a1, .int x2] (M, L, R, K) (some (.int r')) (M', L, R, K) := by
  refine rm_rn rfl rfl (Nat.le_of_ble_eq_true rfl) ?_
  show Rn G mt_X7_gapOf 0 [(0, .ref a0), (1, .ref a1), (2, .int x2)] [] (M, L, R, K) (some (.int r')) (M', L, R, K)
  unfold f_X7_gapOf at h
  refine rn_aload_n (q := 1) 1 rfl zd_X7_gapOf_0.1.1.1.1 ?_
  refine rn_iload_n (q := 2) 2 rfl zd_X7_gapOf_0.1.1.1.2 ?_
  obtain ⟨r1, h2, h⟩ := zbd_e h
  refine rn_callVi (As := [.int x2]) (rest := []) zl_X7_61 zm_X6_has ⟨by decide, by decide⟩ (ci := 6) rfl rfl (by decide) k_a1 rfl rfl (Nat.le_of_ble_eq_true rfl) zd_X7_gapOf_0.1.1.2.1 (ok_X6_has hW k_a1 h2) ?_
  rcases zif_e h with ⟨hc3, h⟩ | ⟨hc3, h⟩
  · refine rn_if_ne_f (tgt := 10) hc3 zd_X7_gapOf_0.1.1.2.2 rfl ?_
    refine rn_iconst (v := 0) zd_X7_gapOf_0.1.2.1.1 rfl ?_
    cases h
    exact rn_iret zd_X7_gapOf_0.1.2.1.2 rfl
  · refine rn_if_ne_t (tgt := 10) hc3 zd_X7_gapOf_0.1.1.2.2 rfl ?_
    refine rn_aload_n (q := 0) 0 rfl zd_X7_gapOf_0.1.2.2.1 ?_
    refine rn_aload_n (q := 1) 1 rfl zd_X7_gapOf_0.1.2.2.2 ?_
    refine rn_iload_n (q := 2) 2 rfl zd_X7_gapOf_0.2.1.1.1 ?_
    refine rn_iconst (v := 0) zd_X7_gapOf_0.2.1.1.2 rfl ?_
    obtain ⟨M4, h5, h⟩ := zbd_e h
    refine rn_callVv (As := [.ref a1, .int x2, .int (0 : Int32)]) (rest := []) zl_X7_67 zm_X7_look ⟨by decide, by decide⟩ (ci := 7) rfl rfl (by decide) k_a0 rfl rfl (Nat.le_of_ble_eq_true rfl) zd_X7_gapOf_0.2.1.2.1 (ok_X7_look hW k_a0 k_a1 h5) ?_
    refine rn_aload_n (q := 0) 0 rfl zd_X7_gapOf_0.2.1.2.2 ?_
    refine rn_getR zf_X7_25 (Or.inr ⟨_, rfl⟩) k_a0 (zx_7_3 hW k_a0) zd_X7_gapOf_0.2.2.1.1 ?_
    refine rn_iconst (v := 3) zd_X7_gapOf_0.2.2.1.2 rfl ?_
    refine rn_iald (zw_7_3 hW k_a0) (by decide) zd_X7_gapOf_0.2.2.2.1 ?_
    cases h
    exact rn_iret zd_X7_gapOf_0.2.2.2.2 rfl
abbrev P_X8_put_3 (G : zG) (K : zK) (R : zR) (L : zL) (a0 : Nat) (x1 : Int32) (r : Option Value) (S' : zS) (v : Int32 × zM) : Prop := Rn G mt_X8_put 3 [(0, .ref a0), (1, .int x1), (2, .int v.1)] [] (v.2, L, R, K) r S'
abbrev Q_X8_put_3 (G : zG) (K : zK) (R : zR) (L : zL) (a0 : Nat) (x1 : Int32) (r : Option Value) (S' : zS) : (zM) → Prop := (fun e => Rn G mt_X8_put 52 [] [] (e, L, R, K) r S')
def b_X8_put_3 (R : zR) (M : zM) (a0 : Nat) (x1 : Int32) (x2 : Int32) : Option ((Int32 × zM) ⊕ ((zM))) :=
  if x2 < 0 then (
    some (.inr M)
  ) else (
    if (M a0 1) < 0 then (
      some (.inl ((x2 + (-8)), M))
    ) else (
      if (2000 : Int32) ≤ (M a0 1) then (
        some (.inl ((x2 + (-8)), M))
      ) else (
        zlt (zup M a0 1 ((M a0 1) + (1 : Int32))) fun M4 =>
        zck (zin (M a0 1) 2000) <|
        zlt (zup M4 (R a0 0) (ztn (M a0 1)) ((x1.toUInt32 >>> (x2.toUInt32 &&& Int32.toUInt32 31)).toInt32).toInt8.toInt32.toInt8.toInt32) fun M6 =>
        some (.inl ((x2 + (-8)), M6))
      )
    )
  )
set_option maxRecDepth 4000 in
theorem ok_b_X8_put_3 {G : zG} {K : zK} {R : zR} {M : zM} {L : zL} (hW : zWT R K) {a0 : Nat} {x1 : Int32} {x2 : Int32} (k_a0 : K[a0]? = some (8, 2)) {r : Option Value} {S' : zS} {x : (Int32 × zM) ⊕ ((zM))} (h : b_X8_put_3 R M a0 x1 x2 = some x) (hk : Sum.elim (P_X8_put_3 G K R L a0 x1 r S') (Q_X8_put_3 G K R L a0 x1 r S') x) : P_X8_put_3 G K R L a0 x1 r S' (x2, M) := by
  show Rn G mt_X8_put 3 [(0, .ref a0), (1, .int x1), (2, .int x2)] [] (M, L, R, K) r S'
  unfold b_X8_put_3 at h
  refine rn_iload_n (q := 2) 2 rfl zd_X8_put_0.1.1.2.1 ?_
  rcases zif_e h with ⟨hc1, h⟩ | ⟨hc1, h⟩
  · refine rn_if_lt_t (tgt := 52) hc1 zd_X8_put_0.1.1.2.2 rfl ?_
    cases h
    exact rn_sub (ls' := []) [] rfl hk
  · refine rn_if_lt_f (tgt := 52) hc1 zd_X8_put_0.1.1.2.2 rfl ?_
    refine rn_aload_n (q := 0) 0 rfl zd_X8_put_0.1.2.1.1 ?_
    refine rn_getI zf_X8_15 (Or.inl rfl) k_a0 zd_X8_put_0.1.2.1.2 ?_
    rcases zif_e h with ⟨hc2, h⟩ | ⟨hc2, h⟩
    · refine rn_if_lt_t (tgt := 46) hc2 zd_X8_put_0.1.2.2.1 rfl ?_
      refine rn_iinc (v := (x2 + (-8))) (ls' := [(2, .int (x2 + (-8))), (0, .ref a0), (1, .int x1)]) 2 rfl (congrArg (fun z => x2 + z) (show Int32.ofInt (-8) = -8 by decide)) (by decide) rfl zd_X8_put_1.2.2.1.2 ?_
      refine rn_goto (tgt := 3) zd_X8_put_1.2.2.2.1 rfl ?_
      cases h
      exact rn_sub (ls' := [(0, .ref a0), (1, .int x1), (2, .int (x2 + (-8)))]) [1, 2, 0] rfl hk
    · refine rn_if_lt_f (tgt := 46) hc2 zd_X8_put_0.1.2.2.1 rfl ?_
      refine rn_aload_n (q := 0) 0 rfl zd_X8_put_0.1.2.2.2 ?_
      refine rn_getI zf_X8_15 (Or.inl rfl) k_a0 zd_X8_put_0.2.1.1.1 ?_
      refine rn_aload_n (q := 0) 0 rfl zd_X8_put_0.2.1.1.2 ?_
      refine rn_getR zf_X8_9 (Or.inr ⟨_, rfl⟩) k_a0 (zx_8_0 hW k_a0) zd_X8_put_0.2.1.2.1 ?_
      refine rn_alen (v := 2000) (zw_8_0 hW k_a0) (Or.inr (Or.inl rfl)) rfl zd_X8_put_0.2.1.2.2 ?_
      rcases zif_e h with ⟨hc3, h⟩ | ⟨hc3, h⟩
      · refine rn_icmp_ge_t (tgt := 46) hc3 zd_X8_put_0.2.2.1.1 rfl ?_
        refine rn_iinc (v := (x2 + (-8))) (ls' := [(2, .int (x2 + (-8))), (0, .ref a0), (1, .int x1)]) 2 rfl (congrArg (fun z => x2 + z) (show Int32.ofInt (-8) = -8 by decide)) (by decide) rfl zd_X8_put_1.2.2.1.2 ?_
        refine rn_goto (tgt := 3) zd_X8_put_1.2.2.2.1 rfl ?_
        cases h
        exact rn_sub (ls' := [(0, .ref a0), (1, .int x1), (2, .int (x2 + (-8)))]) [1, 2, 0] rfl hk
      · refine rn_icmp_ge_f (tgt := 46) hc3 zd_X8_put_0.2.2.1.1 rfl ?_
        refine rn_aload_n (q := 0) 0 rfl zd_X8_put_0.2.2.1.2 ?_
        refine rn_getR zf_X8_9 (Or.inr ⟨_, rfl⟩) k_a0 (zx_8_0 hW k_a0) zd_X8_put_0.2.2.2.1 ?_
        refine rn_aload_n (q := 0) 0 rfl zd_X8_put_0.2.2.2.2 ?_
        refine rn_dup zd_X8_put_1.1.1.1 rfl ?_
        refine rn_getI zf_X8_15 (Or.inl rfl) k_a0 zd_X8_put_1.1.1.2.1 ?_
        refine rn_dup_x1 zd_X8_put_1.1.1.2.2 rfl rfl ?_
        refine rn_iconst (v := 1) zd_X8_put_1.1.2.1.1 rfl ?_
        refine rn_iadd zd_X8_put_1.1.2.1.2 ?_
        obtain ⟨M4, hM4, h⟩ := zlt_e h
        refine rn_putI hM4 zf_X8_15 k_a0 zd_X8_put_1.1.2.2.1 ?_
        refine rn_iload_n (q := 1) 1 rfl zd_X8_put_1.1.2.2.2 ?_
        refine rn_iload_n (q := 2) 2 rfl zd_X8_put_1.2.1.1 ?_
        refine rn_iushr zd_X8_put_1.2.1.2.1 ?_
        refine rn_i2b zd_X8_put_1.2.1.2.2 ?_
        obtain ⟨hc5, h⟩ := zck_e h
        obtain ⟨M6, hM6, h⟩ := zlt_e h
        refine rn_bast rfl hM6 (zw_8_0 hW k_a0) hc5 zd_X8_put_1.2.2.1.1 ?_
        refine rn_iinc (v := (x2 + (-8))) (ls' := [(2, .int (x2 + (-8))), (0, .ref a0), (1, .int x1)]) 2 rfl (congrArg (fun z => x2 + z) (show Int32.ofInt (-8) = -8 by decide)) (by decide) rfl zd_X8_put_1.2.2.1.2 ?_
        refine rn_goto (tgt := 3) zd_X8_put_1.2.2.2.1 rfl ?_
        cases h
        exact rn_sub (ls' := [(0, .ref a0), (1, .int x1), (2, .int (x2 + (-8)))]) [1, 2, 0] rfl hk
def f_X8_put (R : zR) (M : zM) (a0 : Nat) (x1 : Int32) : Option (zM) :=
  zbd (zloop zN (fun v => b_X8_put_3 R v.2 a0 x1 v.1) ((24 : Int32), M)) fun e7 =>
  some e7
set_option maxRecDepth 4000 in
theorem ok_X8_put {G : zG} {K : zK} {R : zR} {M : zM} {L : zL} (hW : zWT R K) {a0 : Nat} {x1 : Int32} (k_a0 : K[a0]? = some (8, 2)) {M' : zM} (h : f_X8_put R M a0 x1 = some M') : Rm G mt_X8_put [.ref a0, .int x1] (M, L, R, K) none (M', L, R, K) := by
  refine rm_rn rfl rfl (Nat.le_of_ble_eq_true rfl) ?_
  show Rn G mt_X8_put 0 [(0, .ref a0), (1, .int x1)] [] (M, L, R, K) none (M', L, R, K)
  unfold f_X8_put at h
  refine rn_bipush (v := 24) zd_X8_put_0.1.1.1.1 rfl ?_
  refine rn_istore_n (q := 2) (ls' := [(2, .int (24 : Int32)), (0, .ref a0), (1, .int x1)]) (by decide) rfl zd_X8_put_0.1.1.1.2 ?_
  obtain ⟨e7, he7, h⟩ := zbd_e h
  refine rn_sub (ls' := [(0, .ref a0), (1, .int x1), (2, .int (24 : Int32))]) [1, 2, 0] rfl (zloop_ok (P := P_X8_put_3 G K R L a0 x1 none (M', L, R, K)) (Q := Q_X8_put_3 G K R L a0 x1 none (M', L, R, K)) (fun v x hx hq => ok_b_X8_put_3 hW k_a0 hx hq) _ _ _ he7 ?_)
  show Rn G mt_X8_put 52 [] [] (e7, L, R, K) none (M', L, R, K)
  cases h
  exact rn_vret zd_X8_put_1.2.2.2.2 rfl

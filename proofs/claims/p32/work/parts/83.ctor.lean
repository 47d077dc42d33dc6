/-! CONSTRUCTORS, by program -/
def g_X6_init (K : zK) (R : zR) (M : zM) (L : zL) (a0 : Nat) : Option (zK × zR × zM × zL) :=
  zkk K a0 (6, 8) <|
  zlt K.length fun a1 =>
  zlt (zzM M a1) fun M2 =>
  zlt (zzL L a1) fun L3 =>
  zlt (K ++ [(20, 10)]) fun K4 =>
  zlt (zupR R a0 0 a1) fun R5 =>
  zck (!decide (a1 = 0)) <|
  zlt K4.length fun a7 =>
  zlt (zzM M2 a7) fun M8 =>
  zlt (zzL L3 a7) fun L9 =>
  zlt (K4 ++ [(20, 10)]) fun K10 =>
  zlt (zupR R5 a0 1 a7) fun R11 =>
  zck (!decide (a7 = 0)) <|
  zlt K10.length fun a13 =>
  zlt (zzM M8 a13) fun M14 =>
  zlt (zzL L9 a13) fun L15 =>
  zlt (K10 ++ [(20, 10)]) fun K16 =>
  zlt (zupR R11 a0 2 a13) fun R17 =>
  zck (!decide (a13 = 0)) <|
  zlt K16.length fun a19 =>
  zlt (zzM M14 a19) fun M20 =>
  zlt (zzL L15 a19) fun L21 =>
  zlt (K16 ++ [(23, 10)]) fun K22 =>
  zlt (zupR R17 a0 3 a19) fun R23 =>
  zck (!decide (a19 = 0)) <|
  some (K22, R23, M20, L21)
set_option maxRecDepth 4000 in
theorem ok_X6_init_g {G : zG} {K : zK} {R : zR} {M : zM} {L : zL} {a0 : Nat} {K' : zK} {R' : zR} {M' : zM} {L' : zL} (h : g_X6_init K R M L a0 = some (K', R', M', L')) : Rm G mt_X6_init [.ref a0] (M, L, R, K) none (M', L', R', K') := by
  refine rm_rn rfl rfl (Nat.le_of_ble_eq_true rfl) ?_
  show Rn G mt_X6_init 0 [(0, .ref a0)] [] (M, L, R, K) none (M', L', R', K')
  unfold g_X6_init at h
  obtain ⟨k_a0z, k_a0, h⟩ := zkk_e h
  refine rn_aload_n (q := 0) 0 rfl zd_X6_init_0.1.1.1.1 ?_
  refine rn_objInit zb_X6_3 zoi zoc ⟨by decide, by decide⟩ (Nat.le_of_ble_eq_true rfl) zd_X6_init_0.1.1.1.2 ?_
  refine rn_aload_n (q := 0) 0 rfl zd_X6_init_0.1.1.2.1 ?_
  refine rn_bipush (v := 10) zd_X6_init_0.1.1.2.2 rfl ?_
  obtain ⟨a1, ha1, h⟩ := zlt_e h
  obtain ⟨M2, hM2, h⟩ := zlt_e h
  obtain ⟨L3, hL3, h⟩ := zlt_e h
  obtain ⟨K4, hK4, h⟩ := zlt_e h
  refine rn_newaE (at_ := .int) ha1 hM2 hL3 hK4 zqa_int rfl (by decide) (Or.inl ⟨rfl, rfl⟩) zd_X6_init_0.1.2.1.1 ?_
  obtain ⟨R5, hR5, h⟩ := zlt_e h
  obtain ⟨hn6, h⟩ := zck_e h
  refine rn_putR hR5 (zbne hn6) (Or.inr ⟨_, rfl⟩) (fun _ => ⟨rfl, rfl⟩) zf_X6_9 (zkl hK4 k_a0) zd_X6_init_0.1.2.1.2 ?_
  refine rn_aload_n (q := 0) 0 rfl zd_X6_init_0.1.2.2.1 ?_
  refine rn_bipush (v := 10) zd_X6_init_0.1.2.2.2 rfl ?_
  obtain ⟨a7, ha7, h⟩ := zlt_e h
  obtain ⟨M8, hM8, h⟩ := zlt_e h
  obtain ⟨L9, hL9, h⟩ := zlt_e h
  obtain ⟨K10, hK10, h⟩ := zlt_e h
  refine rn_newaE (at_ := .int) ha7 hM8 hL9 hK10 zqa_int rfl (by decide) (Or.inl ⟨rfl, rfl⟩) zd_X6_init_0.2.1.1.1 ?_
  obtain ⟨R11, hR11, h⟩ := zlt_e h
  obtain ⟨hn12, h⟩ := zck_e h
  refine rn_putR hR11 (zbne hn12) (Or.inr ⟨_, rfl⟩) (fun _ => ⟨rfl, rfl⟩) zf_X6_15 (zkl hK10 (zkl hK4 k_a0)) zd_X6_init_0.2.1.1.2 ?_
  refine rn_aload_n (q := 0) 0 rfl zd_X6_init_0.2.1.2.1 ?_
  refine rn_bipush (v := 10) zd_X6_init_0.2.1.2.2 rfl ?_
  obtain ⟨a13, ha13, h⟩ := zlt_e h
  obtain ⟨M14, hM14, h⟩ := zlt_e h
  obtain ⟨L15, hL15, h⟩ := zlt_e h
  obtain ⟨K16, hK16, h⟩ := zlt_e h
  refine rn_newaE (at_ := .int) ha13 hM14 hL15 hK16 zqa_int rfl (by decide) (Or.inl ⟨rfl, rfl⟩) zd_X6_init_0.2.2.1.1 ?_
  obtain ⟨R17, hR17, h⟩ := zlt_e h
  obtain ⟨hn18, h⟩ := zck_e h
  refine rn_putR hR17 (zbne hn18) (Or.inr ⟨_, rfl⟩) (fun _ => ⟨rfl, rfl⟩) zf_X6_18 (zkl hK16 (zkl hK10 (zkl hK4 k_a0))) zd_X6_init_0.2.2.1.2 ?_
  refine rn_aload_n (q := 0) 0 rfl zd_X6_init_0.2.2.2.1 ?_
  refine rn_bipush (v := 10) zd_X6_init_0.2.2.2.2 rfl ?_
  obtain ⟨a19, ha19, h⟩ := zlt_e h
  obtain ⟨M20, hM20, h⟩ := zlt_e h
  obtain ⟨L21, hL21, h⟩ := zlt_e h
  obtain ⟨K22, hK22, h⟩ := zlt_e h
  refine rn_newaE (at_ := .long) ha19 hM20 hL21 hK22 zqa_long rfl (by decide) (Or.inr (Or.inr (Or.inr ⟨rfl, rfl⟩))) zd_X6_init_1.1 ?_
  obtain ⟨R23, hR23, h⟩ := zlt_e h
  obtain ⟨hn24, h⟩ := zck_e h
  refine rn_putR hR23 (zbne hn24) (Or.inr ⟨_, rfl⟩) (fun _ => ⟨rfl, rfl⟩) zf_X6_21 (zkl hK22 (zkl hK16 (zkl hK10 (zkl hK4 k_a0)))) zd_X6_init_1.2.1 ?_
  cases h
  exact rn_vret zd_X6_init_1.2.2 rfl
def g_X0_init (K : zK) (R : zR) (M : zM) (L : zL) (a0 : Nat) : Option (zK × zR × zM × zL) :=
  zkk K a0 (0, 4) <|
  zlt K.length fun a1 =>
  zlt (zzM M a1) fun M2 =>
  zlt (zzR R a1) fun R3 =>
  zlt (K ++ [(6, 8)]) fun K4 =>
  zbd4 (g_X6_init K4 R3 M2 L a1) fun K5 R6 M7 L8 =>
  zkk K5 a0 (0, 4) <|
  zkk K5 a1 (6, 8) <|
  zkk K5 a0 (0, 4) <|
  zlt (zupR R6 a0 0 a1) fun R13 =>
  zck (!decide (a1 = 0)) <|
  some (K5, R13, M7, L8)
set_option maxRecDepth 4000 in
theorem ok_X0_init_g {G : zG} {K : zK} {R : zR} {M : zM} {L : zL} {a0 : Nat} {K' : zK} {R' : zR} {M' : zM} {L' : zL} (h : g_X0_init K R M L a0 = some (K', R', M', L')) : Rm G mt_X0_init [.ref a0] (M, L, R, K) none (M', L', R', K') := by
  refine rm_rn rfl rfl (Nat.le_of_ble_eq_true rfl) ?_
  show Rn G mt_X0_init 0 [(0, .ref a0)] [] (M, L, R, K) none (M', L', R', K')
  unfold g_X0_init at h
  obtain ⟨k_a0z, k_a0, h⟩ := zkk_e h
  refine rn_aload_n (q := 0) 0 rfl zd_X0_init_0.1.1.1 ?_
  refine rn_objInit zb_X0_3 zoi zoc ⟨by decide, by decide⟩ (Nat.le_of_ble_eq_true rfl) zd_X0_init_0.1.1.2 ?_
  refine rn_aload_n (q := 0) 0 rfl zd_X0_init_0.1.2.1 ?_
  obtain ⟨a1, ha1, h⟩ := zlt_e h
  obtain ⟨M2, hM2, h⟩ := zlt_e h
  obtain ⟨R3, hR3, h⟩ := zlt_e h
  obtain ⟨K4, hK4, h⟩ := zlt_e h
  refine rn_newE ha1 hM2 hR3 hK4 zc_X6 zq_X0_9 zqi_X6 zqn_X6 zd_X0_init_0.1.2.2 ?_
  refine rn_dup zd_X0_init_0.2.1.1 rfl ?_
  obtain ⟨K5, R6, M7, L8, h9, h⟩ := zbd4_e h
  refine rn_callI (As := []) (rest := [.ref a1, .ref a0]) zl_X0_11 zm_X6_init ⟨by decide, by decide⟩ rfl rfl (Nat.le_of_ble_eq_true rfl) zd_X0_init_0.2.1.2 (ok_X6_init_g h9) ?_
  obtain ⟨hz10z, hz10, h⟩ := zkk_e h
  obtain ⟨hz11z, hz11, h⟩ := zkk_e h
  obtain ⟨hz12z, hz12, h⟩ := zkk_e h
  obtain ⟨R13, hR13, h⟩ := zlt_e h
  obtain ⟨hn14, h⟩ := zck_e h
  refine rn_putR hR13 (zbne hn14) (Or.inl ⟨_, rfl⟩) (fun _ => ⟨rfl, rfl⟩) zf_X0_12 hz12 zd_X0_init_0.2.2.1 ?_
  cases h
  exact rn_vret zd_X0_init_0.2.2.2 rfl
def g_X6_copyHouse (K : zK) (R : zR) (M : zM) (L : zL) (a0 : Nat) (x1 : Int32) (x2 : Int32) : Option (zM × zL) :=
  zkk K a0 (6, 8) <|
  if x1 < 0 then (
    some (M, L)
  ) else (
    if (10 : Int32) ≤ x1 then (
      some (M, L)
    ) else (
      if x2 < 0 then (
        some (M, L)
      ) else (
        if x2 < (10 : Int32) then (
          zkk K (R a0 0) (20, 10) <|
          zkk K (R a0 0) (20, 10) <|
          zck (zin x1 10) <|
          zck (zin x2 10) <|
          zlt (zup M (R a0 0) (ztn x2) (M (R a0 0) (ztn x1))) fun M9 =>
          zkk K (R a0 1) (20, 10) <|
          zkk K (R a0 1) (20, 10) <|
          zck (zin x1 10) <|
          zck (zin x2 10) <|
          zlt (zup M9 (R a0 1) (ztn x2) (M9 (R a0 1) (ztn x1))) fun M14 =>
          zkk K (R a0 2) (20, 10) <|
          zkk K (R a0 2) (20, 10) <|
          zck (zin x1 10) <|
          zck (zin x2 10) <|
          zlt (zup M14 (R a0 2) (ztn x2) (M14 (R a0 2) (ztn x1))) fun M19 =>
          zkk K (R a0 3) (23, 10) <|
          zkk K (R a0 3) (23, 10) <|
          zck (zin x1 10) <|
          zck (zin x2 10) <|
          zlt (zupL L (R a0 3) (ztn x2) (L (R a0 3) (ztn x1))) fun L24 =>
          some (M19, L24)
        ) else (
          some (M, L)
        )
      )
    )
  )
set_option maxRecDepth 4000 in
theorem ok_X6_copyHouse_g {G : zG} {K : zK} {R : zR} {M : zM} {L : zL} {a0 : Nat} {x1 : Int32} {x2 : Int32} {M' : zM} {L' : zL} (h : g_X6_copyHouse K R M L a0 x1 x2 = some (M', L')) : Rm G mt_X6_copyHouse [.ref a0, .int x1, .int x2] (M, L, R, K) none (M', L', R, K) := by
  refine rm_rn rfl rfl (Nat.le_of_ble_eq_true rfl) ?_
  show Rn G mt_X6_copyHouse 0 [(0, .ref a0), (1, .int x1), (2, .int x2)] [] (M, L, R, K) none (M', L', R, K)
  unfold g_X6_copyHouse at h
  obtain ⟨k_a0z, k_a0, h⟩ := zkk_e h
  refine rn_iload_n (q := 1) 1 rfl zd_X6_copyHouse_0.1.1.1.1 ?_
  rcases zif_e h with ⟨hc1, h⟩ | ⟨hc1, h⟩
  · refine rn_if_lt_t (tgt := 20) hc1 zd_X6_copyHouse_0.1.1.1.2 rfl ?_
    cases h
    exact rn_vret zd_X6_copyHouse_0.2.1.2.1 rfl
  · refine rn_if_lt_f (tgt := 20) hc1 zd_X6_copyHouse_0.1.1.1.2 rfl ?_
    refine rn_iload_n (q := 1) 1 rfl zd_X6_copyHouse_0.1.1.2.1 ?_
    refine rn_bipush (v := 10) zd_X6_copyHouse_0.1.1.2.2 rfl ?_
    rcases zif_e h with ⟨hc2, h⟩ | ⟨hc2, h⟩
    · refine rn_icmp_ge_t (tgt := 20) hc2 zd_X6_copyHouse_0.1.2.1.1 rfl ?_
      cases h
      exact rn_vret zd_X6_copyHouse_0.2.1.2.1 rfl
    · refine rn_icmp_ge_f (tgt := 20) hc2 zd_X6_copyHouse_0.1.2.1.1 rfl ?_
      refine rn_iload_n (q := 2) 2 rfl zd_X6_copyHouse_0.1.2.1.2 ?_
      rcases zif_e h with ⟨hc3, h⟩ | ⟨hc3, h⟩
      · refine rn_if_lt_t (tgt := 20) hc3 zd_X6_copyHouse_0.1.2.2.1 rfl ?_
        cases h
        exact rn_vret zd_X6_copyHouse_0.2.1.2.1 rfl
      · refine rn_if_lt_f (tgt := 20) hc3 zd_X6_copyHouse_0.1.2.2.1 rfl ?_
        refine rn_iload_n (q := 2) 2 rfl zd_X6_copyHouse_0.1.2.2.2 ?_
        refine rn_bipush (v := 10) zd_X6_copyHouse_0.2.1.1.1 rfl ?_
        rcases zif_e h with ⟨hc4, h⟩ | ⟨hc4, h⟩
        · refine rn_icmp_lt_t (tgt := 21) hc4 zd_X6_copyHouse_0.2.1.1.2 rfl ?_
          refine rn_aload_n (q := 0) 0 rfl zd_X6_copyHouse_0.2.1.2.2 ?_
          obtain ⟨hz5z, hz5, h⟩ := zkk_e h
          refine rn_getR zf_X6_9 (Or.inr ⟨_, rfl⟩) k_a0 hz5z zd_X6_copyHouse_0.2.2.1.1 ?_
          refine rn_iload_n (q := 2) 2 rfl zd_X6_copyHouse_0.2.2.1.2 ?_
          refine rn_aload_n (q := 0) 0 rfl zd_X6_copyHouse_0.2.2.2.1 ?_
          obtain ⟨hz6z, hz6, h⟩ := zkk_e h
          refine rn_getR zf_X6_9 (Or.inr ⟨_, rfl⟩) k_a0 hz6z zd_X6_copyHouse_0.2.2.2.2 ?_
          refine rn_iload_n (q := 1) 1 rfl zd_X6_copyHouse_1.1.1.1.1 ?_
          obtain ⟨hc7, h⟩ := zck_e h
          refine rn_iald hz6 hc7 zd_X6_copyHouse_1.1.1.1.2 ?_
          obtain ⟨hc8, h⟩ := zck_e h
          obtain ⟨M9, hM9, h⟩ := zlt_e h
          refine rn_iast hM9 hz5 hc8 zd_X6_copyHouse_1.1.1.2.1 ?_
          refine rn_aload_n (q := 0) 0 rfl zd_X6_copyHouse_1.1.1.2.2 ?_
          obtain ⟨hz10z, hz10, h⟩ := zkk_e h
          refine rn_getR zf_X6_15 (Or.inr ⟨_, rfl⟩) k_a0 hz10z zd_X6_copyHouse_1.1.2.1.1 ?_
          refine rn_iload_n (q := 2) 2 rfl zd_X6_copyHouse_1.1.2.1.2 ?_
          refine rn_aload_n (q := 0) 0 rfl zd_X6_copyHouse_1.1.2.2.1 ?_
          obtain ⟨hz11z, hz11, h⟩ := zkk_e h
          refine rn_getR zf_X6_15 (Or.inr ⟨_, rfl⟩) k_a0 hz11z zd_X6_copyHouse_1.1.2.2.2 ?_
          refine rn_iload_n (q := 1) 1 rfl zd_X6_copyHouse_1.2.1.1.1 ?_
          obtain ⟨hc12, h⟩ := zck_e h
          refine rn_iald hz11 hc12 zd_X6_copyHouse_1.2.1.1.2 ?_
          obtain ⟨hc13, h⟩ := zck_e h
          obtain ⟨M14, hM14, h⟩ := zlt_e h
          refine rn_iast hM14 hz10 hc13 zd_X6_copyHouse_1.2.1.2.1 ?_
          refine rn_aload_n (q := 0) 0 rfl zd_X6_copyHouse_1.2.1.2.2 ?_
          obtain ⟨hz15z, hz15, h⟩ := zkk_e h
          refine rn_getR zf_X6_18 (Or.inr ⟨_, rfl⟩) k_a0 hz15z zd_X6_copyHouse_1.2.2.1.1 ?_
          refine rn_iload_n (q := 2) 2 rfl zd_X6_copyHouse_1.2.2.1.2 ?_
          refine rn_aload_n (q := 0) 0 rfl zd_X6_copyHouse_1.2.2.2.1 ?_
          obtain ⟨hz16z, hz16, h⟩ := zkk_e h
          refine rn_getR zf_X6_18 (Or.inr ⟨_, rfl⟩) k_a0 hz16z zd_X6_copyHouse_1.2.2.2.2 ?_
          refine rn_iload_n (q := 1) 1 rfl zd_X6_copyHouse_2.1.1.1 ?_
          obtain ⟨hc17, h⟩ := zck_e h
          refine rn_iald hz16 hc17 zd_X6_copyHouse_2.1.1.2.1 ?_
          obtain ⟨hc18, h⟩ := zck_e h
          obtain ⟨M19, hM19, h⟩ := zlt_e h
          refine rn_iast hM19 hz15 hc18 zd_X6_copyHouse_2.1.1.2.2 ?_
          refine rn_aload_n (q := 0) 0 rfl zd_X6_copyHouse_2.1.2.1 ?_
          obtain ⟨hz20z, hz20, h⟩ := zkk_e h
          refine rn_getR zf_X6_21 (Or.inr ⟨_, rfl⟩) k_a0 hz20z zd_X6_copyHouse_2.1.2.2.1 ?_
          refine rn_iload_n (q := 2) 2 rfl zd_X6_copyHouse_2.1.2.2.2 ?_
          refine rn_aload_n (q := 0) 0 rfl zd_X6_copyHouse_2.2.1.1 ?_
          obtain ⟨hz21z, hz21, h⟩ := zkk_e h
          refine rn_getR zf_X6_21 (Or.inr ⟨_, rfl⟩) k_a0 hz21z zd_X6_copyHouse_2.2.1.2.1 ?_
          refine rn_iload_n (q := 1) 1 rfl zd_X6_copyHouse_2.2.1.2.2 ?_
          obtain ⟨hc22, h⟩ := zck_e h
          refine rn_lald hz21 hc22 zd_X6_copyHouse_2.2.2.1 ?_
          obtain ⟨hc23, h⟩ := zck_e h
          obtain ⟨L24, hL24, h⟩ := zlt_e h
          refine rn_last hL24 hz20 hc23 zd_X6_copyHouse_2.2.2.2.1 ?_
          cases h
          exact rn_vret zd_X6_copyHouse_2.2.2.2.2 rfl
        · refine rn_icmp_lt_f (tgt := 21) hc4 zd_X6_copyHouse_0.2.1.1.2 rfl ?_
          cases h
          exact rn_vret zd_X6_copyHouse_0.2.1.2.1 rfl
def g_X6_isFull (K : zK) (M : zM) (a0 : Nat) : Option (Int32) :=
  zkk K a0 (6, 8) <|
  if (M a0 4) < (10 : Int32) then (
    some (0 : Int32)
  ) else (
    some (1 : Int32)
  )
set_option maxRecDepth 4000 in
theorem ok_X6_isFull_g {G : zG} {K : zK} {R : zR} {M : zM} {L : zL} {a0 : Nat} {r' : Int32} (h : g_X6_isFull K M a0 = some r') : Rm G mt_X6_isFull [.ref a0] (M, L, R, K) (some (.int r')) (M, L, R, K) := by
  refine rm_rn rfl rfl (Nat.le_of_ble_eq_true rfl) ?_
  show Rn G mt_X6_isFull 0 [(0, .ref a0)] [] (M, L, R, K) (some (.int r')) (M, L, R, K)
  unfold g_X6_isFull at h
  obtain ⟨k_a0z, k_a0, h⟩ := zkk_e h
  refine rn_aload_n (q := 0) 0 rfl zd_X6_isFull_0.1.1.1 ?_
  refine rn_getI zf_X6_25 (Or.inl rfl) k_a0 zd_X6_isFull_0.1.1.2 ?_
  refine rn_bipush (v := 10) zd_X6_isFull_0.1.2.1 rfl ?_
  rcases zif_e h with ⟨hc1, h⟩ | ⟨hc1, h⟩
  · refine rn_icmp_lt_t (tgt := 13) hc1 zd_X6_isFull_0.1.2.2 rfl ?_
    refine rn_iconst (v := 0) zd_X6_isFull_0.2.2.1 rfl ?_
    cases h
    exact rn_zret zd_X6_isFull_0.2.2.2 rfl rfl
  · refine rn_icmp_lt_f (tgt := 13) hc1 zd_X6_isFull_0.1.2.2 rfl ?_
    refine rn_iconst (v := 1) zd_X6_isFull_0.2.1.1 rfl ?_
    refine rn_goto (tgt := 14) zd_X6_isFull_0.2.1.2 rfl ?_
    cases h
    exact rn_zret zd_X6_isFull_0.2.2.2 rfl rfl
abbrev P_X6_insert_g_25 (G : zG) (K : zK) (R : zR) (a0 : Nat) (x1 : Int32) (x2 : Int32) (r : Option Value) (S' : zS) (v : Int32 × zM × zL) : Prop := Rn G mt_X6_insert 25 [(0, .ref a0), (1, .int x1), (2, .int x2), (3, .int v.1)] [] (v.2.1, v.2.2, R, K) r S'
abbrev Q_X6_insert_g_25 (G : zG) (K : zK) (R : zR) (a0 : Nat) (x1 : Int32) (x2 : Int32) (r : Option Value) (S' : zS) : (zM × zL) → Prop := (fun e => Rn G mt_X6_insert 44 [(0, .ref a0), (1, .int x1), (2, .int x2)] [] (e.1, e.2, R, K) r S')
def b_X6_insert_g_25 (K : zK) (R : zR) (M : zM) (L : zL) (a0 : Nat) (x1 : Int32) (x2 : Int32) (x3 : Int32) : Option ((Int32 × zM × zL) ⊕ ((zM × zL))) :=
  zkk K a0 (6, 8) <|
  if x3 ≤ x1 then (
    some (.inr (M, L))
  ) else (
    zbd2 (g_X6_copyHouse K R M L a0 (x3 - (1 : Int32)) x3) fun M7 L8 =>
    some (.inl ((x3 + (-1)), M7, L8))
  )
set_option maxRecDepth 4000 in
theorem ok_b_X6_insert_g_25 {G : zG} {K : zK} {R : zR} {M : zM} {L : zL} {a0 : Nat} {x1 : Int32} {x2 : Int32} {x3 : Int32} {r : Option Value} {S' : zS} {x : (Int32 × zM × zL) ⊕ ((zM × zL))} (h : b_X6_insert_g_25 K R M L a0 x1 x2 x3 = some x) (hk : Sum.elim (P_X6_insert_g_25 G K R a0 x1 x2 r S') (Q_X6_insert_g_25 G K R a0 x1 x2 r S') x) : P_X6_insert_g_25 G K R a0 x1 x2 r S' (x3, M, L) := by
  show Rn G mt_X6_insert 25 [(0, .ref a0), (1, .int x1), (2, .int x2), (3, .int x3)] [] (M, L, R, K) r S'
  unfold b_X6_insert_g_25 at h
  obtain ⟨k_a0z, k_a0, h⟩ := zkk_e h
  refine rn_iload_n (q := 3) 3 rfl zd_X6_insert_0.2.2.1.2 ?_
  refine rn_iload_n (q := 1) 1 rfl zd_X6_insert_0.2.2.2.1 ?_
  rcases zif_e h with ⟨hc6, h⟩ | ⟨hc6, h⟩
  · refine rn_icmp_le_t (tgt := 44) hc6 zd_X6_insert_0.2.2.2.2 rfl ?_
    cases h
    exact rn_sub (ls' := [(0, .ref a0), (1, .int x1), (2, .int x2)]) [0, 1, 2] rfl hk
  · refine rn_icmp_le_f (tgt := 44) hc6 zd_X6_insert_0.2.2.2.2 rfl ?_
    refine rn_aload_n (q := 0) 0 rfl zd_X6_insert_1.1.1.1.1 ?_
    refine rn_iload_n (q := 3) 3 rfl zd_X6_insert_1.1.1.1.2 ?_
    refine rn_iconst (v := 1) zd_X6_insert_1.1.1.2.1 rfl ?_
    refine rn_isub zd_X6_insert_1.1.1.2.2 ?_
    refine rn_iload_n (q := 3) 3 rfl zd_X6_insert_1.1.2.1.1 ?_
    obtain ⟨M7, L8, h9, h⟩ := zbd2_e h
    refine rn_callVv (As := [.int (x3 - (1 : Int32)), .int x3]) (rest := []) zl_X6_72 zm_X6_copyHouse ⟨by decide, by decide⟩ (ci := 6) rfl rfl (by decide) k_a0 rfl rfl (Nat.le_of_ble_eq_true rfl) zd_X6_insert_1.1.2.1.2 (ok_X6_copyHouse_g h9) ?_
    refine rn_iinc (v := (x3 + (-1))) (ls' := [(3, .int (x3 + (-1))), (0, .ref a0), (1, .int x1), (2, .int x2)]) 3 rfl (congrArg (fun z => x3 + z) (show Int32.ofInt (-1) = -1 by decide)) (by decide) rfl zd_X6_insert_1.1.2.2.1 ?_
    refine rn_goto (tgt := 25) zd_X6_insert_1.1.2.2.2 rfl ?_
    cases h
    exact rn_sub (ls' := [(0, .ref a0), (1, .int x1), (2, .int x2), (3, .int (x3 + (-1)))]) [1, 2, 3, 0] rfl hk
def g_X6_insert (K : zK) (R : zR) (M : zM) (L : zL) (a0 : Nat) (x1 : Int32) (x2 : Int32) : Option (zM × zL) :=
  zkk K a0 (6, 8) <|
  if x1 < 0 then (
    some (M, L)
  ) else (
    if (M a0 4) < x1 then (
      some (M, L)
    ) else (
      zbd (g_X6_isFull K M a0) fun r3 =>
      if r3 = 0 then (
        zbd (zloop zN (fun v => b_X6_insert_g_25 K R v.2.1 v.2.2 a0 x1 x2 v.1) ((M a0 4), M, L)) fun e10 =>
        zlt (zup e10.1 a0 4 ((e10.1 a0 4) + (1 : Int32))) fun M11 =>
        zkk K (R a0 0) (20, 10) <|
        zck (zin x1 10) <|
        zlt (zup M11 (R a0 0) (ztn x1) x2) fun M14 =>
        zkk K (R a0 1) (20, 10) <|
        zck (zin x1 10) <|
        zlt (zup M14 (R a0 1) (ztn x1) (0 : Int32)) fun M17 =>
        zkk K (R a0 2) (20, 10) <|
        zck (zin x1 10) <|
        zlt (zup M17 (R a0 2) (ztn x1) (0 : Int32)) fun M20 =>
        zkk K (R a0 3) (23, 10) <|
        zck (zin x1 10) <|
        zlt (zupL e10.2 (R a0 3) (ztn x1) (0 : Int64)) fun L23 =>
        some (M20, L23)
      ) else (
        some (M, L)
      )
    )
  )
set_option maxRecDepth 4000 in
theorem ok_X6_insert_g {G : zG} {K : zK} {R : zR} {M : zM} {L : zL} {a0 : Nat} {x1 : Int32} {x2 : Int32} {M' : zM} {L' : zL} (h : g_X6_insert K R M L a0 x1 x2 = some (M', L')) : Rm G mt_X6_insert [.ref a0, .int x1, .int x2] (M, L, R, K) none (M', L', R, K) := by
  refine rm_rn rfl rfl (Nat.le_of_ble_eq_true rfl) ?_
  show Rn G mt_X6_insert 0 [(0, .ref a0), (1, .int x1), (2, .int x2)] [] (M, L, R, K) none (M', L', R, K)
  unfold g_X6_insert at h
  obtain ⟨k_a0z, k_a0, h⟩ := zkk_e h
  refine rn_iload_n (q := 1) 1 rfl zd_X6_insert_0.1.1.1.1 ?_
  rcases zif_e h with ⟨hc1, h⟩ | ⟨hc1, h⟩
  · refine rn_if_lt_t (tgt := 19) hc1 zd_X6_insert_0.1.1.1.2 rfl ?_
    cases h
    exact rn_vret zd_X6_insert_0.2.1.1.2 rfl
  · refine rn_if_lt_f (tgt := 19) hc1 zd_X6_insert_0.1.1.1.2 rfl ?_
    refine rn_iload_n (q := 1) 1 rfl zd_X6_insert_0.1.1.2.1 ?_
    refine rn_aload_n (q := 0) 0 rfl zd_X6_insert_0.1.1.2.2 ?_
    refine rn_getI zf_X6_25 (Or.inl rfl) k_a0 zd_X6_insert_0.1.2.1.1 ?_
    rcases zif_e h with ⟨hc2, h⟩ | ⟨hc2, h⟩
    · refine rn_icmp_gt_t (tgt := 19) hc2 zd_X6_insert_0.1.2.1.2 rfl ?_
      cases h
      exact rn_vret zd_X6_insert_0.2.1.1.2 rfl
    · refine rn_icmp_gt_f (tgt := 19) hc2 zd_X6_insert_0.1.2.1.2 rfl ?_
      refine rn_aload_n (q := 0) 0 rfl zd_X6_insert_0.1.2.2.1 ?_
      obtain ⟨r3, h4, h⟩ := zbd_e h
      refine rn_callVi (As := []) (rest := []) zl_X6_68 zm_X6_isFull ⟨by decide, by decide⟩ (ci := 6) rfl rfl (by decide) k_a0 rfl rfl (Nat.le_of_ble_eq_true rfl) zd_X6_insert_0.1.2.2.2 (ok_X6_isFull_g h4) ?_
      rcases zif_e h with ⟨hc5, h⟩ | ⟨hc5, h⟩
      · refine rn_if_eq_t (tgt := 20) hc5 zd_X6_insert_0.2.1.1.1 rfl ?_
        refine rn_aload_n (q := 0) 0 rfl zd_X6_insert_0.2.1.2.1 ?_
        refine rn_getI zf_X6_25 (Or.inl rfl) k_a0 zd_X6_insert_0.2.1.2.2 ?_
        refine rn_istore_n (q := 3) (ls' := [(3, .int (M a0 4)), (0, .ref a0), (1, .int x1), (2, .int x2)]) (by decide) rfl zd_X6_insert_0.2.2.1.1 ?_
        obtain ⟨e10, he10, h⟩ := zbd_e h
        refine rn_sub (ls' := [(0, .ref a0), (1, .int x1), (2, .int x2), (3, .int (M a0 4))]) [1, 2, 3, 0] rfl (zloop_ok (P := P_X6_insert_g_25 G K R a0 x1 x2 none (M', L', R, K)) (Q := Q_X6_insert_g_25 G K R a0 x1 x2 none (M', L', R, K)) (fun v x hx hq => ok_b_X6_insert_g_25 hx hq) _ _ _ he10 ?_)
        show Rn G mt_X6_insert 44 [(0, .ref a0), (1, .int x1), (2, .int x2)] [] (e10.1, e10.2, R, K) none (M', L', R, K)
        refine rn_aload_n (q := 0) 0 rfl zd_X6_insert_1.2.1.1.1 ?_
        refine rn_dup zd_X6_insert_1.2.1.1.2 rfl ?_
        refine rn_getI zf_X6_25 (Or.inl rfl) k_a0 zd_X6_insert_1.2.1.2.1 ?_
        refine rn_iconst (v := 1) zd_X6_insert_1.2.1.2.2 rfl ?_
        refine rn_iadd zd_X6_insert_1.2.2.1.1 ?_
        obtain ⟨M11, hM11, h⟩ := zlt_e h
        refine rn_putI hM11 zf_X6_25 k_a0 zd_X6_insert_1.2.2.1.2 ?_
        refine rn_aload_n (q := 0) 0 rfl zd_X6_insert_1.2.2.2.1 ?_
        obtain ⟨hz12z, hz12, h⟩ := zkk_e h
        refine rn_getR zf_X6_9 (Or.inr ⟨_, rfl⟩) k_a0 hz12z zd_X6_insert_1.2.2.2.2 ?_
        refine rn_iload_n (q := 1) 1 rfl zd_X6_insert_2.1.1.1.1 ?_
        refine rn_iload_n (q := 2) 2 rfl zd_X6_insert_2.1.1.1.2 ?_
        obtain ⟨hc13, h⟩ := zck_e h
        obtain ⟨M14, hM14, h⟩ := zlt_e h
        refine rn_iast hM14 hz12 hc13 zd_X6_insert_2.1.1.2.1 ?_
        refine rn_aload_n (q := 0) 0 rfl zd_X6_insert_2.1.1.2.2 ?_
        obtain ⟨hz15z, hz15, h⟩ := zkk_e h
        refine rn_getR zf_X6_15 (Or.inr ⟨_, rfl⟩) k_a0 hz15z zd_X6_insert_2.1.2.1.1 ?_
        refine rn_iload_n (q := 1) 1 rfl zd_X6_insert_2.1.2.1.2 ?_
        refine rn_iconst (v := 0) zd_X6_insert_2.1.2.2.1 rfl ?_
        obtain ⟨hc16, h⟩ := zck_e h
        obtain ⟨M17, hM17, h⟩ := zlt_e h
        refine rn_iast hM17 hz15 hc16 zd_X6_insert_2.1.2.2.2 ?_
        refine rn_aload_n (q := 0) 0 rfl zd_X6_insert_2.2.1.1.1 ?_
        obtain ⟨hz18z, hz18, h⟩ := zkk_e h
        refine rn_getR zf_X6_18 (Or.inr ⟨_, rfl⟩) k_a0 hz18z zd_X6_insert_2.2.1.1.2 ?_
        refine rn_iload_n (q := 1) 1 rfl zd_X6_insert_2.2.1.2.1 ?_
        refine rn_iconst (v := 0) zd_X6_insert_2.2.1.2.2 rfl ?_
        obtain ⟨hc19, h⟩ := zck_e h
        obtain ⟨M20, hM20, h⟩ := zlt_e h
        refine rn_iast hM20 hz18 hc19 zd_X6_insert_2.2.2.1.1 ?_
        refine rn_aload_n (q := 0) 0 rfl zd_X6_insert_2.2.2.1.2 ?_
        obtain ⟨hz21z, hz21, h⟩ := zkk_e h
        refine rn_getR zf_X6_21 (Or.inr ⟨_, rfl⟩) k_a0 hz21z zd_X6_insert_2.2.2.2.1 ?_
        refine rn_iload_n (q := 1) 1 rfl zd_X6_insert_2.2.2.2.2 ?_
        refine rn_lconst (v := 0) zd_X6_insert_3.1 rfl ?_
        obtain ⟨hc22, h⟩ := zck_e h
        obtain ⟨L23, hL23, h⟩ := zlt_e h
        refine rn_last hL23 hz21 hc22 zd_X6_insert_3.2.1 ?_
        cases h
        exact rn_vret zd_X6_insert_3.2.2 rfl
      · refine rn_if_eq_f (tgt := 20) hc5 zd_X6_insert_0.2.1.1.1 rfl ?_
        cases h
        exact rn_vret zd_X6_insert_0.2.1.1.2 rfl
def g_X1_init (K : zK) (R : zR) (M : zM) (L : zL) (a0 : Nat) : Option (zK × zR × zM × zL) :=
  zkk K a0 (1, 2) <|
  zlt K.length fun a1 =>
  zlt (zzM M a1) fun M2 =>
  zlt (zzR R a1) fun R3 =>
  zlt (K ++ [(6, 8)]) fun K4 =>
  zbd4 (g_X6_init K4 R3 M2 L a1) fun K5 R6 M7 L8 =>
  zkk K5 a0 (1, 2) <|
  zkk K5 a1 (6, 8) <|
  zkk K5 a0 (1, 2) <|
  zlt (zupR R6 a0 0 a1) fun R13 =>
  zck (!decide (a1 = 0)) <|
  zlt K5.length fun a15 =>
  zlt (zzM M7 a15) fun M16 =>
  zlt (zzL L8 a15) fun L17 =>
  zlt (K5 ++ [(20, 3311)]) fun K18 =>
  zlt (zupR R13 a0 1 a15) fun R19 =>
  zck (!decide (a15 = 0)) <|
  some (K18, R19, M16, L17)
set_option maxRecDepth 4000 in
theorem ok_X1_init_g {G : zG} {K : zK} {R : zR} {M : zM} {L : zL} {a0 : Nat} {K' : zK} {R' : zR} {M' : zM} {L' : zL} (h : g_X1_init K R M L a0 = some (K', R', M', L')) : Rm G mt_X1_init [.ref a0] (M, L, R, K) none (M', L', R', K') := by
  refine rm_rn rfl rfl (Nat.le_of_ble_eq_true rfl) ?_
  show Rn G mt_X1_init 0 [(0, .ref a0)] [] (M, L, R, K) none (M', L', R', K')
  unfold g_X1_init at h
  obtain ⟨k_a0z, k_a0, h⟩ := zkk_e h
  refine rn_aload_n (q := 0) 0 rfl zd_X1_init_0.1.1.1 ?_
  refine rn_objInit zb_X1_3 zoi zoc ⟨by decide, by decide⟩ (Nat.le_of_ble_eq_true rfl) zd_X1_init_0.1.1.2.1 ?_
  refine rn_aload_n (q := 0) 0 rfl zd_X1_init_0.1.1.2.2 ?_
  obtain ⟨a1, ha1, h⟩ := zlt_e h
  obtain ⟨M2, hM2, h⟩ := zlt_e h
  obtain ⟨R3, hR3, h⟩ := zlt_e h
  obtain ⟨K4, hK4, h⟩ := zlt_e h
  refine rn_newE ha1 hM2 hR3 hK4 zc_X6 zq_X1_9 zqi_X6 zqn_X6 zd_X1_init_0.1.2.1 ?_
  refine rn_dup zd_X1_init_0.1.2.2.1 rfl ?_
  obtain ⟨K5, R6, M7, L8, h9, h⟩ := zbd4_e h
  refine rn_callI (As := []) (rest := [.ref a1, .ref a0]) zl_X1_11 zm_X6_init ⟨by decide, by decide⟩ rfl rfl (Nat.le_of_ble_eq_true rfl) zd_X1_init_0.1.2.2.2 (ok_X6_init_g h9) ?_
  obtain ⟨hz10z, hz10, h⟩ := zkk_e h
  obtain ⟨hz11z, hz11, h⟩ := zkk_e h
  obtain ⟨hz12z, hz12, h⟩ := zkk_e h
  obtain ⟨R13, hR13, h⟩ := zlt_e h
  obtain ⟨hn14, h⟩ := zck_e h
  refine rn_putR hR13 (zbne hn14) (Or.inl ⟨_, rfl⟩) (fun _ => ⟨rfl, rfl⟩) zf_X1_12 hz12 zd_X1_init_0.2.1.1 ?_
  refine rn_aload_n (q := 0) 0 rfl zd_X1_init_0.2.1.2.1 ?_
  refine rn_sipush (v := 3311) zd_X1_init_0.2.1.2.2 rfl ?_
  obtain ⟨a15, ha15, h⟩ := zlt_e h
  obtain ⟨M16, hM16, h⟩ := zlt_e h
  obtain ⟨L17, hL17, h⟩ := zlt_e h
  obtain ⟨K18, hK18, h⟩ := zlt_e h
  refine rn_newaE (at_ := .int) ha15 hM16 hL17 hK18 zqa_int rfl (by decide) (Or.inl ⟨rfl, rfl⟩) zd_X1_init_0.2.2.1 ?_
  obtain ⟨R19, hR19, h⟩ := zlt_e h
  obtain ⟨hn20, h⟩ := zck_e h
  refine rn_putR hR19 (zbne hn20) (Or.inr ⟨_, rfl⟩) (fun _ => ⟨rfl, rfl⟩) zf_X1_18 (zkl hK18 hz10) zd_X1_init_0.2.2.2.1 ?_
  cases h
  exact rn_vret zd_X1_init_0.2.2.2.2 rfl
abbrev P_X2_init_g_30 (G : zG)  (a0 : Nat) (r : Option Value) (S' : zS) (v : Int32 × zK × zR × zM × zL) : Prop := Rn G mt_X2_init 30 [(0, .ref a0), (1, .int v.1)] [] (v.2.2.2.1, v.2.2.2.2, v.2.2.1, v.2.1) r S'
abbrev Q_X2_init_g_30 (G : zG)  (a0 : Nat) (r : Option Value) (S' : zS) : (zK × zR × zM × zL) → Prop := (fun e => Rn G mt_X2_init 58 [(0, .ref a0)] [] (e.2.2.1, e.2.2.2, e.2.1, e.1) r S')
def b_X2_init_g_30 (K : zK) (R : zR) (M : zM) (L : zL) (a0 : Nat) (x1 : Int32) : Option ((Int32 × zK × zR × zM × zL) ⊕ ((zK × zR × zM × zL))) :=
  zkk K a0 (2, 5) <|
  zkk K (R a0 0) (24, 30) <|
  if (30 : Int32) ≤ x1 then (
    some (.inr (K, R, M, L))
  ) else (
    zkk K (R a0 0) (24, 30) <|
    zlt K.length fun a20 =>
    zlt (zzM M a20) fun M21 =>
    zlt (zzR R a20) fun R22 =>
    zlt (K ++ [(6, 8)]) fun K23 =>
    zbd4 (g_X6_init K23 R22 M21 L a20) fun K24 R25 M26 L27 =>
    zkk K24 a0 (2, 5) <|
    zkk K24 a20 (6, 8) <|
    zkk K24 (R a0 0) (24, 30) <|
    zck (zin x1 30) <|
    zlt (zupR R25 (R a0 0) (ztn x1) a20) fun R33 =>
    zck (!decide (a20 = 0)) <|
    some (.inl ((x1 + 1), K24, R33, M26, L27))
  )
set_option maxRecDepth 4000 in
theorem ok_b_X2_init_g_30 {G : zG} {K : zK} {R : zR} {M : zM} {L : zL} {a0 : Nat} {x1 : Int32} {r : Option Value} {S' : zS} {x : (Int32 × zK × zR × zM × zL) ⊕ ((zK × zR × zM × zL))} (h : b_X2_init_g_30 K R M L a0 x1 = some x) (hk : Sum.elim (P_X2_init_g_30 G a0 r S') (Q_X2_init_g_30 G a0 r S') x) : P_X2_init_g_30 G a0 r S' (x1, K, R, M, L) := by
  show Rn G mt_X2_init 30 [(0, .ref a0), (1, .int x1)] [] (M, L, R, K) r S'
  unfold b_X2_init_g_30 at h
  obtain ⟨k_a0z, k_a0, h⟩ := zkk_e h
  refine rn_iload_n (q := 1) 1 rfl zd_X2_init_1.1.1.1.1 ?_
  refine rn_aload_n (q := 0) 0 rfl zd_X2_init_1.1.1.1.2 ?_
  obtain ⟨hz17z, hz17, h⟩ := zkk_e h
  refine rn_getR zf_X2_11 (Or.inr ⟨_, rfl⟩) k_a0 hz17z zd_X2_init_1.1.1.2.1 ?_
  refine rn_alen (v := 30) hz17 (Or.inr (Or.inr (Or.inr (Or.inr rfl)))) rfl zd_X2_init_1.1.1.2.2 ?_
  rcases zif_e h with ⟨hc18, h⟩ | ⟨hc18, h⟩
  · refine rn_icmp_ge_t (tgt := 58) hc18 zd_X2_init_1.1.2.1.1 rfl ?_
    cases h
    exact rn_sub (ls' := [(0, .ref a0)]) [0] rfl hk
  · refine rn_icmp_ge_f (tgt := 58) hc18 zd_X2_init_1.1.2.1.1 rfl ?_
    refine rn_aload_n (q := 0) 0 rfl zd_X2_init_1.1.2.1.2 ?_
    obtain ⟨hz19z, hz19, h⟩ := zkk_e h
    refine rn_getR zf_X2_11 (Or.inr ⟨_, rfl⟩) k_a0 hz19z zd_X2_init_1.1.2.2.1 ?_
    refine rn_iload_n (q := 1) 1 rfl zd_X2_init_1.1.2.2.2 ?_
    obtain ⟨a20, ha20, h⟩ := zlt_e h
    obtain ⟨M21, hM21, h⟩ := zlt_e h
    obtain ⟨R22, hR22, h⟩ := zlt_e h
    obtain ⟨K23, hK23, h⟩ := zlt_e h
    refine rn_newE ha20 hM21 hR22 hK23 zc_X6 zq_X2_9 zqi_X6 zqn_X6 zd_X2_init_1.2.1.1.1 ?_
    refine rn_dup zd_X2_init_1.2.1.1.2 rfl ?_
    obtain ⟨K24, R25, M26, L27, h28, h⟩ := zbd4_e h
    refine rn_callI (As := []) (rest := [.ref a20, .int x1, .ref (R a0 0)]) zl_X2_24 zm_X6_init ⟨by decide, by decide⟩ rfl rfl (Nat.le_of_ble_eq_true rfl) zd_X2_init_1.2.1.2.1 (ok_X6_init_g h28) ?_
    obtain ⟨hz29z, hz29, h⟩ := zkk_e h
    obtain ⟨hz30z, hz30, h⟩ := zkk_e h
    obtain ⟨hz31z, hz31, h⟩ := zkk_e h
    obtain ⟨hc32, h⟩ := zck_e h
    obtain ⟨R33, hR33, h⟩ := zlt_e h
    obtain ⟨hn34, h⟩ := zck_e h
    refine rn_qast hR33 hz30 (zbne hn34) hz31 hc32 zd_X2_init_1.2.1.2.2 ?_
    refine rn_iinc (v := (x1 + 1)) (ls' := [(1, .int (x1 + 1)), (0, .ref a0)]) 1 rfl rfl (by decide) rfl zd_X2_init_1.2.2.1.1 ?_
    refine rn_goto (tgt := 30) zd_X2_init_1.2.2.1.2 rfl ?_
    cases h
    exact rn_sub (ls' := [(0, .ref a0), (1, .int (x1 + 1))]) [1, 0] rfl hk
abbrev P_X2_init_g_60 (G : zG)  (a0 : Nat) (r : Option Value) (S' : zS) (v : Int32 × zK × zR × zM × zL) : Prop := Rn G mt_X2_init 60 [(0, .ref a0), (1, .int v.1)] [] (v.2.2.2.1, v.2.2.2.2, v.2.2.1, v.2.1) r S'
abbrev Q_X2_init_g_60 (G : zG)  (a0 : Nat) (r : Option Value) (S' : zS) : (zK × zR × zM × zL) → Prop := (fun e => Rn G mt_X2_init 88 [] [] (e.2.2.1, e.2.2.2, e.2.1, e.1) r S')
def b_X2_init_g_60 (K : zK) (R : zR) (M : zM) (L : zL) (a0 : Nat) (x1 : Int32) : Option ((Int32 × zK × zR × zM × zL) ⊕ ((zK × zR × zM × zL))) :=
  zkk K a0 (2, 5) <|
  zkk K (R a0 1) (24, 3) <|
  if (3 : Int32) ≤ x1 then (
    some (.inr (K, R, M, L))
  ) else (
    zkk K (R a0 1) (24, 3) <|
    zlt K.length fun a40 =>
    zlt (zzM M a40) fun M41 =>
    zlt (zzR R a40) fun R42 =>
    zlt (K ++ [(6, 8)]) fun K43 =>
    zbd4 (g_X6_init K43 R42 M41 L a40) fun K44 R45 M46 L47 =>
    zkk K44 a0 (2, 5) <|
    zkk K44 a40 (6, 8) <|
    zkk K44 (R a0 1) (24, 3) <|
    zck (zin x1 3) <|
    zlt (zupR R45 (R a0 1) (ztn x1) a40) fun R53 =>
    zck (!decide (a40 = 0)) <|
    some (.inl ((x1 + 1), K44, R53, M46, L47))
  )
set_option maxRecDepth 4000 in
theorem ok_b_X2_init_g_60 {G : zG} {K : zK} {R : zR} {M : zM} {L : zL} {a0 : Nat} {x1 : Int32} {r : Option Value} {S' : zS} {x : (Int32 × zK × zR × zM × zL) ⊕ ((zK × zR × zM × zL))} (h : b_X2_init_g_60 K R M L a0 x1 = some x) (hk : Sum.elim (P_X2_init_g_60 G a0 r S') (Q_X2_init_g_60 G a0 r S') x) : P_X2_init_g_60 G a0 r S' (x1, K, R, M, L) := by
  show Rn G mt_X2_init 60 [(0, .ref a0), (1, .int x1)] [] (M, L, R, K) r S'
  unfold b_X2_init_g_60 at h
  obtain ⟨k_a0z, k_a0, h⟩ := zkk_e h
  refine rn_iload_n (q := 1) 1 rfl zd_X2_init_2.1.1.1 ?_
  refine rn_aload_n (q := 0) 0 rfl zd_X2_init_2.1.1.2.1 ?_
  obtain ⟨hz37z, hz37, h⟩ := zkk_e h
  refine rn_getR zf_X2_17 (Or.inr ⟨_, rfl⟩) k_a0 hz37z zd_X2_init_2.1.1.2.2 ?_
  refine rn_alen (v := 3) hz37 (Or.inr (Or.inr (Or.inr (Or.inr rfl)))) rfl zd_X2_init_2.1.2.1.1 ?_
  rcases zif_e h with ⟨hc38, h⟩ | ⟨hc38, h⟩
  · refine rn_icmp_ge_t (tgt := 88) hc38 zd_X2_init_2.1.2.1.2 rfl ?_
    cases h
    exact rn_sub (ls' := []) [] rfl hk
  · refine rn_icmp_ge_f (tgt := 88) hc38 zd_X2_init_2.1.2.1.2 rfl ?_
    refine rn_aload_n (q := 0) 0 rfl zd_X2_init_2.1.2.2.1 ?_
    obtain ⟨hz39z, hz39, h⟩ := zkk_e h
    refine rn_getR zf_X2_17 (Or.inr ⟨_, rfl⟩) k_a0 hz39z zd_X2_init_2.1.2.2.2 ?_
    refine rn_iload_n (q := 1) 1 rfl zd_X2_init_2.2.1.1.1 ?_
    obtain ⟨a40, ha40, h⟩ := zlt_e h
    obtain ⟨M41, hM41, h⟩ := zlt_e h
    obtain ⟨R42, hR42, h⟩ := zlt_e h
    obtain ⟨K43, hK43, h⟩ := zlt_e h
    refine rn_newE ha40 hM41 hR42 hK43 zc_X6 zq_X2_9 zqi_X6 zqn_X6 zd_X2_init_2.2.1.1.2 ?_
    refine rn_dup zd_X2_init_2.2.1.2.1 rfl ?_
    obtain ⟨K44, R45, M46, L47, h48, h⟩ := zbd4_e h
    refine rn_callI (As := []) (rest := [.ref a40, .int x1, .ref (R a0 1)]) zl_X2_24 zm_X6_init ⟨by decide, by decide⟩ rfl rfl (Nat.le_of_ble_eq_true rfl) zd_X2_init_2.2.1.2.2 (ok_X6_init_g h48) ?_
    obtain ⟨hz49z, hz49, h⟩ := zkk_e h
    obtain ⟨hz50z, hz50, h⟩ := zkk_e h
    obtain ⟨hz51z, hz51, h⟩ := zkk_e h
    obtain ⟨hc52, h⟩ := zck_e h
    obtain ⟨R53, hR53, h⟩ := zlt_e h
    obtain ⟨hn54, h⟩ := zck_e h
    refine rn_qast hR53 hz50 (zbne hn54) hz51 hc52 zd_X2_init_2.2.2.1.1 ?_
    refine rn_iinc (v := (x1 + 1)) (ls' := [(1, .int (x1 + 1)), (0, .ref a0)]) 1 rfl rfl (by decide) rfl zd_X2_init_2.2.2.1.2 ?_
    refine rn_goto (tgt := 60) zd_X2_init_2.2.2.2.1 rfl ?_
    cases h
    exact rn_sub (ls' := [(0, .ref a0), (1, .int (x1 + 1))]) [1, 0] rfl hk
def g_X2_init (K : zK) (R : zR) (M : zM) (L : zL) (a0 : Nat) : Option (zK × zR × zM × zL) :=
  zkk K a0 (2, 5) <|
  zlt K.length fun a1 =>
  zlt (zzR R a1) fun R2 =>
  zlt (K ++ [(24, 30)]) fun K3 =>
  zlt (zupR R2 a0 0 a1) fun R4 =>
  zck (!decide (a1 = 0)) <|
  zlt K3.length fun a6 =>
  zlt (zzR R4 a6) fun R7 =>
  zlt (K3 ++ [(24, 3)]) fun K8 =>
  zlt (zupR R7 a0 1 a6) fun R9 =>
  zck (!decide (a6 = 0)) <|
  zlt K8.length fun a11 =>
  zlt (zzM M a11) fun M12 =>
  zlt (zzL L a11) fun L13 =>
  zlt (K8 ++ [(22, 3)]) fun K14 =>
  zlt (zupR R9 a0 2 a11) fun R15 =>
  zck (!decide (a11 = 0)) <|
  zbd (zloop zN (fun v => b_X2_init_g_30 v.2.1 v.2.2.1 v.2.2.2.1 v.2.2.2.2 a0 v.1) ((0 : Int32), K14, R15, M12, L13)) fun e35 =>
  zkk e35.1 a0 (2, 5) <|
  zbd (zloop zN (fun v => b_X2_init_g_60 v.2.1 v.2.2.1 v.2.2.2.1 v.2.2.2.2 a0 v.1) ((0 : Int32), e35.1, e35.2.1, e35.2.2.1, e35.2.2.2)) fun e55 =>
  some (e55.1, e55.2.1, e55.2.2.1, e55.2.2.2)
set_option maxRecDepth 4000 in
theorem ok_X2_init_g {G : zG} {K : zK} {R : zR} {M : zM} {L : zL} {a0 : Nat} {K' : zK} {R' : zR} {M' : zM} {L' : zL} (h : g_X2_init K R M L a0 = some (K', R', M', L')) : Rm G mt_X2_init [.ref a0] (M, L, R, K) none (M', L', R', K') := by
  refine rm_rn rfl rfl (Nat.le_of_ble_eq_true rfl) ?_
  show Rn G mt_X2_init 0 [(0, .ref a0)] [] (M, L, R, K) none (M', L', R', K')
  unfold g_X2_init at h
  obtain ⟨k_a0z, k_a0, h⟩ := zkk_e h
  refine rn_aload_n (q := 0) 0 rfl zd_X2_init_0.1.1.1.1 ?_
  refine rn_objInit zb_X2_3 zoi zoc ⟨by decide, by decide⟩ (Nat.le_of_ble_eq_true rfl) zd_X2_init_0.1.1.1.2 ?_
  refine rn_aload_n (q := 0) 0 rfl zd_X2_init_0.1.1.2.1 ?_
  refine rn_bipush (v := 30) zd_X2_init_0.1.1.2.2 rfl ?_
  obtain ⟨a1, ha1, h⟩ := zlt_e h
  obtain ⟨R2, hR2, h⟩ := zlt_e h
  obtain ⟨K3, hK3, h⟩ := zlt_e h
  refine rn_newqE ha1 hR2 hK3 zq_X2_9 zqo rfl (by decide) zd_X2_init_0.1.2.1.1 ?_
  obtain ⟨R4, hR4, h⟩ := zlt_e h
  obtain ⟨hn5, h⟩ := zck_e h
  refine rn_putR hR4 (zbne hn5) (Or.inr ⟨_, rfl⟩) (fun _ => ⟨rfl, rfl⟩) zf_X2_11 (zkl hK3 k_a0) zd_X2_init_0.1.2.1.2 ?_
  refine rn_aload_n (q := 0) 0 rfl zd_X2_init_0.1.2.2.1 ?_
  refine rn_iconst (v := 3) zd_X2_init_0.1.2.2.2 rfl ?_
  obtain ⟨a6, ha6, h⟩ := zlt_e h
  obtain ⟨R7, hR7, h⟩ := zlt_e h
  obtain ⟨K8, hK8, h⟩ := zlt_e h
  refine rn_newqE ha6 hR7 hK8 zq_X2_9 zqo rfl (by decide) zd_X2_init_0.2.1.1.1 ?_
  obtain ⟨R9, hR9, h⟩ := zlt_e h
  obtain ⟨hn10, h⟩ := zck_e h
  refine rn_putR hR9 (zbne hn10) (Or.inr ⟨_, rfl⟩) (fun _ => ⟨rfl, rfl⟩) zf_X2_17 (zkl hK8 (zkl hK3 k_a0)) zd_X2_init_0.2.1.1.2 ?_
  refine rn_aload_n (q := 0) 0 rfl zd_X2_init_0.2.1.2.1 ?_
  refine rn_iconst (v := 3) zd_X2_init_0.2.1.2.2 rfl ?_
  obtain ⟨a11, ha11, h⟩ := zlt_e h
  obtain ⟨M12, hM12, h⟩ := zlt_e h
  obtain ⟨L13, hL13, h⟩ := zlt_e h
  obtain ⟨K14, hK14, h⟩ := zlt_e h
  refine rn_newaE (at_ := .boolean) ha11 hM12 hL13 hK14 zqa_boolean rfl (by decide) (Or.inr (Or.inr (Or.inl ⟨rfl, rfl⟩))) zd_X2_init_0.2.2.1.1 ?_
  obtain ⟨R15, hR15, h⟩ := zlt_e h
  obtain ⟨hn16, h⟩ := zck_e h
  refine rn_putR hR15 (zbne hn16) (Or.inr ⟨_, rfl⟩) (fun _ => ⟨rfl, rfl⟩) zf_X2_20 (zkl hK14 (zkl hK8 (zkl hK3 k_a0))) zd_X2_init_0.2.2.1.2 ?_
  refine rn_iconst (v := 0) zd_X2_init_0.2.2.2.1 rfl ?_
  refine rn_istore_n (q := 1) (ls' := [(1, .int (0 : Int32)), (0, .ref a0)]) (by decide) rfl zd_X2_init_0.2.2.2.2 ?_
  obtain ⟨e35, he35, h⟩ := zbd_e h
  refine rn_sub (ls' := [(0, .ref a0), (1, .int (0 : Int32))]) [1, 0] rfl (zloop_ok (P := P_X2_init_g_30 G a0 none (M', L', R', K')) (Q := Q_X2_init_g_30 G a0 none (M', L', R', K')) (fun v x hx hq => ok_b_X2_init_g_30 hx hq) _ _ _ he35 ?_)
  show Rn G mt_X2_init 58 [(0, .ref a0)] [] (e35.2.2.1, e35.2.2.2, e35.2.1, e35.1) none (M', L', R', K')
  obtain ⟨hz36z, hz36, h⟩ := zkk_e h
  refine rn_iconst (v := 0) zd_X2_init_1.2.2.2.1 rfl ?_
  refine rn_istore_n (q := 1) (ls' := [(1, .int (0 : Int32)), (0, .ref a0)]) (by decide) rfl zd_X2_init_1.2.2.2.2 ?_
  obtain ⟨e55, he55, h⟩ := zbd_e h
  refine rn_sub (ls' := [(0, .ref a0), (1, .int (0 : Int32))]) [1, 0] rfl (zloop_ok (P := P_X2_init_g_60 G a0 none (M', L', R', K')) (Q := Q_X2_init_g_60 G a0 none (M', L', R', K')) (fun v x hx hq => ok_b_X2_init_g_60 hx hq) _ _ _ he55 ?_)
  show Rn G mt_X2_init 88 [] [] (e55.2.2.1, e55.2.2.2, e55.2.1, e55.1) none (M', L', R', K')
  cases h
  exact rn_vret zd_X2_init_2.2.2.2.2 rfl
def g_X3_init (K : zK) (R : zR) (M : zM) (L : zL) (a0 : Nat) : Option (zK × zR × zM × zL) :=
  zkk K a0 (3, 5) <|
  zlt K.length fun a1 =>
  zlt (zzM M a1) fun M2 =>
  zlt (zzL L a1) fun L3 =>
  zlt (K ++ [(20, 400)]) fun K4 =>
  zlt (zupR R a0 0 a1) fun R5 =>
  zck (!decide (a1 = 0)) <|
  zlt K4.length fun a7 =>
  zlt (zzM M2 a7) fun M8 =>
  zlt (zzL L3 a7) fun L9 =>
  zlt (K4 ++ [(20, 400)]) fun K10 =>
  zlt (zupR R5 a0 1 a7) fun R11 =>
  zck (!decide (a7 = 0)) <|
  zlt K10.length fun a13 =>
  zlt (zzM M8 a13) fun M14 =>
  zlt (zzL L9 a13) fun L15 =>
  zlt (K10 ++ [(20, 16)]) fun K16 =>
  zlt (zupR R11 a0 2 a13) fun R17 =>
  zck (!decide (a13 = 0)) <|
  some (K16, R17, M14, L15)
set_option maxRecDepth 4000 in
theorem ok_X3_init_g {G : zG} {K : zK} {R : zR} {M : zM} {L : zL} {a0 : Nat} {K' : zK} {R' : zR} {M' : zM} {L' : zL} (h : g_X3_init K R M L a0 = some (K', R', M', L')) : Rm G mt_X3_init [.ref a0] (M, L, R, K) none (M', L', R', K') := by
  refine rm_rn rfl rfl (Nat.le_of_ble_eq_true rfl) ?_
  show Rn G mt_X3_init 0 [(0, .ref a0)] [] (M, L, R, K) none (M', L', R', K')
  unfold g_X3_init at h
  obtain ⟨k_a0z, k_a0, h⟩ := zkk_e h
  refine rn_aload_n (q := 0) 0 rfl zd_X3_init_0.1.1.1 ?_
  refine rn_objInit zb_X3_3 zoi zoc ⟨by decide, by decide⟩ (Nat.le_of_ble_eq_true rfl) zd_X3_init_0.1.1.2.1 ?_
  refine rn_aload_n (q := 0) 0 rfl zd_X3_init_0.1.1.2.2 ?_
  refine rn_sipush (v := 400) zd_X3_init_0.1.2.1.1 rfl ?_
  obtain ⟨a1, ha1, h⟩ := zlt_e h
  obtain ⟨M2, hM2, h⟩ := zlt_e h
  obtain ⟨L3, hL3, h⟩ := zlt_e h
  obtain ⟨K4, hK4, h⟩ := zlt_e h
  refine rn_newaE (at_ := .int) ha1 hM2 hL3 hK4 zqa_int rfl (by decide) (Or.inl ⟨rfl, rfl⟩) zd_X3_init_0.1.2.1.2 ?_
  obtain ⟨R5, hR5, h⟩ := zlt_e h
  obtain ⟨hn6, h⟩ := zck_e h
  refine rn_putR hR5 (zbne hn6) (Or.inr ⟨_, rfl⟩) (fun _ => ⟨rfl, rfl⟩) zf_X3_9 (zkl hK4 k_a0) zd_X3_init_0.1.2.2.1 ?_
  refine rn_aload_n (q := 0) 0 rfl zd_X3_init_0.1.2.2.2 ?_
  refine rn_sipush (v := 400) zd_X3_init_0.2.1.1.1 rfl ?_
  obtain ⟨a7, ha7, h⟩ := zlt_e h
  obtain ⟨M8, hM8, h⟩ := zlt_e h
  obtain ⟨L9, hL9, h⟩ := zlt_e h
  obtain ⟨K10, hK10, h⟩ := zlt_e h
  refine rn_newaE (at_ := .int) ha7 hM8 hL9 hK10 zqa_int rfl (by decide) (Or.inl ⟨rfl, rfl⟩) zd_X3_init_0.2.1.1.2 ?_
  obtain ⟨R11, hR11, h⟩ := zlt_e h
  obtain ⟨hn12, h⟩ := zck_e h
  refine rn_putR hR11 (zbne hn12) (Or.inr ⟨_, rfl⟩) (fun _ => ⟨rfl, rfl⟩) zf_X3_15 (zkl hK10 (zkl hK4 k_a0)) zd_X3_init_0.2.1.2.1 ?_
  refine rn_aload_n (q := 0) 0 rfl zd_X3_init_0.2.1.2.2 ?_
  refine rn_bipush (v := 16) zd_X3_init_0.2.2.1.1 rfl ?_
  obtain ⟨a13, ha13, h⟩ := zlt_e h
  obtain ⟨M14, hM14, h⟩ := zlt_e h
  obtain ⟨L15, hL15, h⟩ := zlt_e h
  obtain ⟨K16, hK16, h⟩ := zlt_e h
  refine rn_newaE (at_ := .int) ha13 hM14 hL15 hK16 zqa_int rfl (by decide) (Or.inl ⟨rfl, rfl⟩) zd_X3_init_0.2.2.1.2 ?_
  obtain ⟨R17, hR17, h⟩ := zlt_e h
  obtain ⟨hn18, h⟩ := zck_e h
  refine rn_putR hR17 (zbne hn18) (Or.inr ⟨_, rfl⟩) (fun _ => ⟨rfl, rfl⟩) zf_X3_18 (zkl hK16 (zkl hK10 (zkl hK4 k_a0))) zd_X3_init_0.2.2.2.1 ?_
  cases h
  exact rn_vret zd_X3_init_0.2.2.2.2 rfl
def g_X3_clear (K : zK) (M : zM) (a0 : Nat) : Option (zM) :=
  zkk K a0 (3, 5) <|
  zlt (zup M a0 3 (0 : Int32)) fun M1 =>
  zlt (zup M1 a0 4 (0 : Int32)) fun M2 =>
  some M2
set_option maxRecDepth 4000 in
theorem ok_X3_clear_g {G : zG} {K : zK} {R : zR} {M : zM} {L : zL} {a0 : Nat} {M' : zM} (h : g_X3_clear K M a0 = some M') : Rm G mt_X3_clear [.ref a0] (M, L, R, K) none (M', L, R, K) := by
  refine rm_rn rfl rfl (Nat.le_of_ble_eq_true rfl) ?_
  show Rn G mt_X3_clear 0 [(0, .ref a0)] [] (M, L, R, K) none (M', L, R, K)
  unfold g_X3_clear at h
  obtain ⟨k_a0z, k_a0, h⟩ := zkk_e h
  refine rn_aload_n (q := 0) 0 rfl zd_X3_clear_0.1.1 ?_
  refine rn_iconst (v := 0) zd_X3_clear_0.1.2.1 rfl ?_
  obtain ⟨M1, hM1, h⟩ := zlt_e h
  refine rn_putI hM1 zf_X3_21 k_a0 zd_X3_clear_0.1.2.2 ?_
  refine rn_aload_n (q := 0) 0 rfl zd_X3_clear_0.2.1.1 ?_
  refine rn_iconst (v := 0) zd_X3_clear_0.2.1.2 rfl ?_
  obtain ⟨M2, hM2, h⟩ := zlt_e h
  refine rn_putB (Or.inl rfl) hM2 zf_X3_25 k_a0 zd_X3_clear_0.2.2.1 ?_
  cases h
  exact rn_vret zd_X3_clear_0.2.2.2 rfl
def g_X3_add (K : zK) (R : zR) (M : zM) (a0 : Nat) (x1 : Int32) (x2 : Int32) : Option (zM) :=
  zkk K a0 (3, 5) <|
  if (M a0 3) < 0 then (
    some M
  ) else (
    zkk K (R a0 0) (20, 400) <|
    if (M a0 3) < (400 : Int32) then (
      zkk K (R a0 0) (20, 400) <|
      zck (zin (M a0 3) 400) <|
      zlt (zup M (R a0 0) (ztn (M a0 3)) x1) fun M6 =>
      zkk K (R a0 1) (20, 400) <|
      zck (zin (M6 a0 3) 400) <|
      zlt (zup M6 (R a0 1) (ztn (M6 a0 3)) x2) fun M9 =>
      zlt (zup M9 a0 3 ((M9 a0 3) + (1 : Int32))) fun M10 =>
      if x1 = (2 : Int32) then (
        if x2 = (5 : Int32) then (
          zlt (zup M10 a0 4 (1 : Int32)) fun M13 =>
          some M13
        ) else (
          some M10
        )
      ) else (
        some M10
      )
    ) else (
      some M
    )
  )
set_option maxRecDepth 4000 in
theorem ok_X3_add_g {G : zG} {K : zK} {R : zR} {M : zM} {L : zL} {a0 : Nat} {x1 : Int32} {x2 : Int32} {M' : zM} (h : g_X3_add K R M a0 x1 x2 = some M') : Rm G mt_X3_add [.ref a0, .int x1, .int x2] (M, L, R, K) none (M', L, R, K) := by
  refine rm_rn rfl rfl (Nat.le_of_ble_eq_true rfl) ?_
  show Rn G mt_X3_add 0 [(0, .ref a0), (1, .int x1), (2, .int x2)] [] (M, L, R, K) none (M', L, R, K)
  unfold g_X3_add at h
  obtain ⟨k_a0z, k_a0, h⟩ := zkk_e h
  refine rn_aload_n (q := 0) 0 rfl zd_X3_add_0.1.1.1.1 ?_
  refine rn_getI zf_X3_21 (Or.inl rfl) k_a0 zd_X3_add_0.1.1.1.2 ?_
  rcases zif_e h with ⟨hc1, h⟩ | ⟨hc1, h⟩
  · refine rn_if_lt_t (tgt := 19) hc1 zd_X3_add_0.1.1.2.1 rfl ?_
    cases h
    exact rn_vret zd_X3_add_0.2.1.1.2 rfl
  · refine rn_if_lt_f (tgt := 19) hc1 zd_X3_add_0.1.1.2.1 rfl ?_
    refine rn_aload_n (q := 0) 0 rfl zd_X3_add_0.1.1.2.2 ?_
    refine rn_getI zf_X3_21 (Or.inl rfl) k_a0 zd_X3_add_0.1.2.1.1 ?_
    refine rn_aload_n (q := 0) 0 rfl zd_X3_add_0.1.2.1.2 ?_
    obtain ⟨hz2z, hz2, h⟩ := zkk_e h
    refine rn_getR zf_X3_9 (Or.inr ⟨_, rfl⟩) k_a0 hz2z zd_X3_add_0.1.2.2.1 ?_
    refine rn_alen (v := 400) hz2 (Or.inl rfl) rfl zd_X3_add_0.1.2.2.2 ?_
    rcases zif_e h with ⟨hc3, h⟩ | ⟨hc3, h⟩
    · refine rn_icmp_lt_t (tgt := 20) hc3 zd_X3_add_0.2.1.1.1 rfl ?_
      refine rn_aload_n (q := 0) 0 rfl zd_X3_add_0.2.1.2.1 ?_
      obtain ⟨hz4z, hz4, h⟩ := zkk_e h
      refine rn_getR zf_X3_9 (Or.inr ⟨_, rfl⟩) k_a0 hz4z zd_X3_add_0.2.1.2.2 ?_
      refine rn_aload_n (q := 0) 0 rfl zd_X3_add_0.2.2.1.1 ?_
      refine rn_getI zf_X3_21 (Or.inl rfl) k_a0 zd_X3_add_0.2.2.1.2 ?_
      refine rn_iload_n (q := 1) 1 rfl zd_X3_add_0.2.2.2.1 ?_
      obtain ⟨hc5, h⟩ := zck_e h
      obtain ⟨M6, hM6, h⟩ := zlt_e h
      refine rn_iast hM6 hz4 hc5 zd_X3_add_0.2.2.2.2 ?_
      refine rn_aload_n (q := 0) 0 rfl zd_X3_add_1.1.1.1.1 ?_
      obtain ⟨hz7z, hz7, h⟩ := zkk_e h
      refine rn_getR zf_X3_15 (Or.inr ⟨_, rfl⟩) k_a0 hz7z zd_X3_add_1.1.1.1.2 ?_
      refine rn_aload_n (q := 0) 0 rfl zd_X3_add_1.1.1.2.1 ?_
      refine rn_getI zf_X3_21 (Or.inl rfl) k_a0 zd_X3_add_1.1.1.2.2 ?_
      refine rn_iload_n (q := 2) 2 rfl zd_X3_add_1.1.2.1.1 ?_
      obtain ⟨hc8, h⟩ := zck_e h
      obtain ⟨M9, hM9, h⟩ := zlt_e h
      refine rn_iast hM9 hz7 hc8 zd_X3_add_1.1.2.1.2 ?_
      refine rn_aload_n (q := 0) 0 rfl zd_X3_add_1.1.2.2.1 ?_
      refine rn_dup zd_X3_add_1.1.2.2.2 rfl ?_
      refine rn_getI zf_X3_21 (Or.inl rfl) k_a0 zd_X3_add_1.2.1.1.1 ?_
      refine rn_iconst (v := 1) zd_X3_add_1.2.1.1.2 rfl ?_
      refine rn_iadd zd_X3_add_1.2.1.2.1 ?_
      obtain ⟨M10, hM10, h⟩ := zlt_e h
      refine rn_putI hM10 zf_X3_21 k_a0 zd_X3_add_1.2.1.2.2 ?_
      refine rn_iload_n (q := 1) 1 rfl zd_X3_add_1.2.2.1.1 ?_
      refine rn_iconst (v := 2) zd_X3_add_1.2.2.1.2 rfl ?_
      rcases zif_e h with ⟨hc11, h⟩ | ⟨hc11, h⟩
      · refine rn_icmp_ne_f (tgt := 65) hc11 zd_X3_add_1.2.2.2.1 rfl ?_
        refine rn_iload_n (q := 2) 2 rfl zd_X3_add_1.2.2.2.2 ?_
        refine rn_iconst (v := 5) zd_X3_add_2.1.1 rfl ?_
        rcases zif_e h with ⟨hc12, h⟩ | ⟨hc12, h⟩
        · refine rn_icmp_ne_f (tgt := 65) hc12 zd_X3_add_2.1.2.1 rfl ?_
          refine rn_aload_n (q := 0) 0 rfl zd_X3_add_2.1.2.2 ?_
          refine rn_iconst (v := 1) zd_X3_add_2.2.1 rfl ?_
          obtain ⟨M13, hM13, h⟩ := zlt_e h
          refine rn_putB (Or.inr rfl) hM13 zf_X3_25 k_a0 zd_X3_add_2.2.2.1 ?_
          cases h
          exact rn_vret zd_X3_add_2.2.2.2 rfl
        · refine rn_icmp_ne_t (tgt := 65) hc12 zd_X3_add_2.1.2.1 rfl ?_
          cases h
          exact rn_vret zd_X3_add_2.2.2.2 rfl
      · refine rn_icmp_ne_t (tgt := 65) hc11 zd_X3_add_1.2.2.2.1 rfl ?_
        cases h
        exact rn_vret zd_X3_add_2.2.2.2 rfl
    · refine rn_icmp_lt_f (tgt := 20) hc3 zd_X3_add_0.2.1.1.1 rfl ?_
      cases h
      exact rn_vret zd_X3_add_0.2.1.1.2 rfl
def g_X3_beSeen (K : zK) (R : zR) (M : zM) (a0 : Nat) (x1 : Int32) : Option (zM) :=
  zkk K a0 (3, 5) <|
  zbd (g_X3_clear K M a0) fun M1 =>
  zbd (g_X3_add K R M1 a0 (2 : Int32) x1) fun M3 =>
  zbd (g_X3_add K R M3 a0 (4 : Int32) (0 : Int32)) fun M5 =>
  some M5
set_option maxRecDepth 4000 in
theorem ok_X3_beSeen_g {G : zG} {K : zK} {R : zR} {M : zM} {L : zL} {a0 : Nat} {x1 : Int32} {M' : zM} (h : g_X3_beSeen K R M a0 x1 = some M') : Rm G mt_X3_beSeen [.ref a0, .int x1] (M, L, R, K) none (M', L, R, K) := by
  refine rm_rn rfl rfl (Nat.le_of_ble_eq_true rfl) ?_
  show Rn G mt_X3_beSeen 0 [(0, .ref a0), (1, .int x1)] [] (M, L, R, K) none (M', L, R, K)
  unfold g_X3_beSeen at h
  obtain ⟨k_a0z, k_a0, h⟩ := zkk_e h
  refine rn_aload_n (q := 0) 0 rfl zd_X3_beSeen_0.1.1.1 ?_
  obtain ⟨M1, h2, h⟩ := zbd_e h
  refine rn_callVv (As := []) (rest := []) zl_X3_29 zm_X3_clear ⟨by decide, by decide⟩ (ci := 3) rfl rfl (by decide) k_a0 rfl rfl (Nat.le_of_ble_eq_true rfl) zd_X3_beSeen_0.1.1.2 (ok_X3_clear_g h2) ?_
  refine rn_aload_n (q := 0) 0 rfl zd_X3_beSeen_0.1.2.1 ?_
  refine rn_iconst (v := 2) zd_X3_beSeen_0.1.2.2.1 rfl ?_
  refine rn_iload_n (q := 1) 1 rfl zd_X3_beSeen_0.1.2.2.2 ?_
  obtain ⟨M3, h4, h⟩ := zbd_e h
  refine rn_callVv (As := [.int (2 : Int32), .int x1]) (rest := []) zl_X3_32 zm_X3_add ⟨by decide, by decide⟩ (ci := 3) rfl rfl (by decide) k_a0 rfl rfl (Nat.le_of_ble_eq_true rfl) zd_X3_beSeen_0.2.1.1 (ok_X3_add_g h4) ?_
  refine rn_aload_n (q := 0) 0 rfl zd_X3_beSeen_0.2.1.2.1 ?_
  refine rn_iconst (v := 4) zd_X3_beSeen_0.2.1.2.2 rfl ?_
  refine rn_iconst (v := 0) zd_X3_beSeen_0.2.2.1 rfl ?_
  obtain ⟨M5, h6, h⟩ := zbd_e h
  refine rn_callVv (As := [.int (4 : Int32), .int (0 : Int32)]) (rest := []) zl_X3_32 zm_X3_add ⟨by decide, by decide⟩ (ci := 3) rfl rfl (by decide) k_a0 rfl rfl (Nat.le_of_ble_eq_true rfl) zd_X3_beSeen_0.2.2.2.1 (ok_X3_add_g h6) ?_
  cases h
  exact rn_vret zd_X3_beSeen_0.2.2.2.2 rfl
def g_X3_beNumber (K : zK) (R : zR) (M : zM) (a0 : Nat) (x1 : Int32) : Option (zM) :=
  zkk K a0 (3, 5) <|
  zbd (g_X3_clear K M a0) fun M1 =>
  zbd (g_X3_add K R M1 a0 (1 : Int32) x1) fun M3 =>
  zbd (g_X3_add K R M3 a0 (4 : Int32) (0 : Int32)) fun M5 =>
  some M5
set_option maxRecDepth 4000 in
theorem ok_X3_beNumber_g {G : zG} {K : zK} {R : zR} {M : zM} {L : zL} {a0 : Nat} {x1 : Int32} {M' : zM} (h : g_X3_beNumber K R M a0 x1 = some M') : Rm G mt_X3_beNumber [.ref a0, .int x1] (M, L, R, K) none (M', L, R, K) := by
  refine rm_rn rfl rfl (Nat.le_of_ble_eq_true rfl) ?_
  show Rn G mt_X3_beNumber 0 [(0, .ref a0), (1, .int x1)] [] (M, L, R, K) none (M', L, R, K)
  unfold g_X3_beNumber at h
  obtain ⟨k_a0z, k_a0, h⟩ := zkk_e h
  refine rn_aload_n (q := 0) 0 rfl zd_X3_beNumber_0.1.1.1 ?_
  obtain ⟨M1, h2, h⟩ := zbd_e h
  refine rn_callVv (As := []) (rest := []) zl_X3_29 zm_X3_clear ⟨by decide, by decide⟩ (ci := 3) rfl rfl (by decide) k_a0 rfl rfl (Nat.le_of_ble_eq_true rfl) zd_X3_beNumber_0.1.1.2 (ok_X3_clear_g h2) ?_
  refine rn_aload_n (q := 0) 0 rfl zd_X3_beNumber_0.1.2.1 ?_
  refine rn_iconst (v := 1) zd_X3_beNumber_0.1.2.2.1 rfl ?_
  refine rn_iload_n (q := 1) 1 rfl zd_X3_beNumber_0.1.2.2.2 ?_
  obtain ⟨M3, h4, h⟩ := zbd_e h
  refine rn_callVv (As := [.int (1 : Int32), .int x1]) (rest := []) zl_X3_32 zm_X3_add ⟨by decide, by decide⟩ (ci := 3) rfl rfl (by decide) k_a0 rfl rfl (Nat.le_of_ble_eq_true rfl) zd_X3_beNumber_0.2.1.1 (ok_X3_add_g h4) ?_
  refine rn_aload_n (q := 0) 0 rfl zd_X3_beNumber_0.2.1.2.1 ?_
  refine rn_iconst (v := 4) zd_X3_beNumber_0.2.1.2.2 rfl ?_
  refine rn_iconst (v := 0) zd_X3_beNumber_0.2.2.1 rfl ?_
  obtain ⟨M5, h6, h⟩ := zbd_e h
  refine rn_callVv (As := [.int (4 : Int32), .int (0 : Int32)]) (rest := []) zl_X3_32 zm_X3_add ⟨by decide, by decide⟩ (ci := 3) rfl rfl (by decide) k_a0 rfl rfl (Nat.le_of_ble_eq_true rfl) zd_X3_beNumber_0.2.2.2.1 (ok_X3_add_g h6) ?_
  cases h
  exact rn_vret zd_X3_beNumber_0.2.2.2.2 rfl
def g_X4_init (K : zK) (R : zR) (M : zM) (L : zL) (a0 : Nat) : Option (zK × zR × zM × zL) :=
  zkk K a0 (4, 2) <|
  zlt K.length fun a1 =>
  zlt (zzM M a1) fun M2 =>
  zlt (zzR R a1) fun R3 =>
  zlt (K ++ [(6, 8)]) fun K4 =>
  zbd4 (g_X6_init K4 R3 M2 L a1) fun K5 R6 M7 L8 =>
  zkk K5 a0 (4, 2) <|
  zkk K5 a1 (6, 8) <|
  zkk K5 a0 (4, 2) <|
  zlt (zupR R6 a0 0 a1) fun R13 =>
  zck (!decide (a1 = 0)) <|
  zlt K5.length fun a15 =>
  zlt (zzM M7 a15) fun M16 =>
  zlt (zzL L8 a15) fun L17 =>
  zlt (K5 ++ [(20, 2048)]) fun K18 =>
  zlt (zupR R13 a0 1 a15) fun R19 =>
  zck (!decide (a15 = 0)) <|
  some (K18, R19, M16, L17)
set_option maxRecDepth 4000 in
theorem ok_X4_init_g {G : zG} {K : zK} {R : zR} {M : zM} {L : zL} {a0 : Nat} {K' : zK} {R' : zR} {M' : zM} {L' : zL} (h : g_X4_init K R M L a0 = some (K', R', M', L')) : Rm G mt_X4_init [.ref a0] (M, L, R, K) none (M', L', R', K') := by
  refine rm_rn rfl rfl (Nat.le_of_ble_eq_true rfl) ?_
  show Rn G mt_X4_init 0 [(0, .ref a0)] [] (M, L, R, K) none (M', L', R', K')
  unfold g_X4_init at h
  obtain ⟨k_a0z, k_a0, h⟩ := zkk_e h
  refine rn_aload_n (q := 0) 0 rfl zd_X4_init_0.1.1.1 ?_
  refine rn_objInit zb_X4_3 zoi zoc ⟨by decide, by decide⟩ (Nat.le_of_ble_eq_true rfl) zd_X4_init_0.1.1.2.1 ?_
  refine rn_aload_n (q := 0) 0 rfl zd_X4_init_0.1.1.2.2 ?_
  obtain ⟨a1, ha1, h⟩ := zlt_e h
  obtain ⟨M2, hM2, h⟩ := zlt_e h
  obtain ⟨R3, hR3, h⟩ := zlt_e h
  obtain ⟨K4, hK4, h⟩ := zlt_e h
  refine rn_newE ha1 hM2 hR3 hK4 zc_X6 zq_X4_9 zqi_X6 zqn_X6 zd_X4_init_0.1.2.1 ?_
  refine rn_dup zd_X4_init_0.1.2.2.1 rfl ?_
  obtain ⟨K5, R6, M7, L8, h9, h⟩ := zbd4_e h
  refine rn_callI (As := []) (rest := [.ref a1, .ref a0]) zl_X4_11 zm_X6_init ⟨by decide, by decide⟩ rfl rfl (Nat.le_of_ble_eq_true rfl) zd_X4_init_0.1.2.2.2 (ok_X6_init_g h9) ?_
  obtain ⟨hz10z, hz10, h⟩ := zkk_e h
  obtain ⟨hz11z, hz11, h⟩ := zkk_e h
  obtain ⟨hz12z, hz12, h⟩ := zkk_e h
  obtain ⟨R13, hR13, h⟩ := zlt_e h
  obtain ⟨hn14, h⟩ := zck_e h
  refine rn_putR hR13 (zbne hn14) (Or.inl ⟨_, rfl⟩) (fun _ => ⟨rfl, rfl⟩) zf_X4_12 hz12 zd_X4_init_0.2.1.1 ?_
  refine rn_aload_n (q := 0) 0 rfl zd_X4_init_0.2.1.2.1 ?_
  refine rn_sipush (v := 2048) zd_X4_init_0.2.1.2.2 rfl ?_
  obtain ⟨a15, ha15, h⟩ := zlt_e h
  obtain ⟨M16, hM16, h⟩ := zlt_e h
  obtain ⟨L17, hL17, h⟩ := zlt_e h
  obtain ⟨K18, hK18, h⟩ := zlt_e h
  refine rn_newaE (at_ := .int) ha15 hM16 hL17 hK18 zqa_int rfl (by decide) (Or.inl ⟨rfl, rfl⟩) zd_X4_init_0.2.2.1 ?_
  obtain ⟨R19, hR19, h⟩ := zlt_e h
  obtain ⟨hn20, h⟩ := zck_e h
  refine rn_putR hR19 (zbne hn20) (Or.inr ⟨_, rfl⟩) (fun _ => ⟨rfl, rfl⟩) zf_X4_18 (zkl hK18 hz10) zd_X4_init_0.2.2.2.1 ?_
  cases h
  exact rn_vret zd_X4_init_0.2.2.2.2 rfl
def g_X9_spelled (K : zK) (y0 : Int64) (x2 : Int32) : Option (Int64) :=
  some (((32 : Int64) * y0) + ((x2 - (97 : Int32)) + (1 : Int32)).toInt64)
set_option maxRecDepth 4000 in
theorem ok_X9_spelled_g {G : zG} {K : zK} {R : zR} {M : zM} {L : zL} {y0 : Int64} {x2 : Int32} {r' : Int64} (h : g_X9_spelled K y0 x2 = some r') : Rm G mt_X9_spelled [.long y0, .int x2] (M, L, R, K) (some (.long r')) (M, L, R, K) := by
  refine rm_rn rfl rfl (Nat.le_of_ble_eq_true rfl) ?_
  show Rn G mt_X9_spelled 0 [(0, .long y0), (2, .int x2)] [] (M, L, R, K) (some (.long r')) (M, L, R, K)
  unfold g_X9_spelled at h
  refine rn_ldc2 (v := 32) zk_X9_77 zd_X9_spelled_0.1.1.1 ?_
  refine rn_lload_n (q := 0) 0 rfl zd_X9_spelled_0.1.1.2 ?_
  refine rn_lmul zd_X9_spelled_0.1.2.1 ?_
  refine rn_iload_n (q := 2) 1 rfl zd_X9_spelled_0.1.2.2.1 ?_
  refine rn_bipush (v := 97) zd_X9_spelled_0.1.2.2.2 rfl ?_
  refine rn_isub zd_X9_spelled_0.2.1.1 ?_
  refine rn_iconst (v := 1) zd_X9_spelled_0.2.1.2.1 rfl ?_
  refine rn_iadd zd_X9_spelled_0.2.1.2.2 ?_
  refine rn_i2l zd_X9_spelled_0.2.2.1 ?_
  refine rn_ladd zd_X9_spelled_0.2.2.2.1 ?_
  cases h
  exact rn_lret zd_X9_spelled_0.2.2.2.2 rfl
abbrev P_X9_init_g_43 (G : zG) (K : zK) (R : zR) (M : zM) (a0 : Nat) (r : Option Value) (S' : zS) (v : Int32 × Int32 × zL) : Prop := Rn G mt_X9_init 43 [(0, .ref a0), (1, .int v.1), (2, .int v.2.1)] [] (M, v.2.2, R, K) r S'
abbrev Q_X9_init_g_43 (G : zG) (K : zK) (R : zR) (M : zM) (a0 : Nat) (r : Option Value) (S' : zS) : (zL) → Prop := (fun e => Rn G mt_X9_init 105 [] [] (M, e, R, K) r S')
def b_X9_init_g_43 (K : zK) (R : zR) (M : zM) (L : zL) (a0 : Nat) (x1 : Int32) (x2 : Int32) : Option ((Int32 × Int32 × zL) ⊕ ((zL))) :=
  zkk K a0 (9, 6) <|
  if (103 : Int32) ≤ x2 then (
    some (.inr L)
  ) else (
    zck (zin x2 103) <|
    if (zWch x2) = (32 : Int32) then (
      some (.inl ((x1 + 1), (x2 + 1), L))
    ) else (
      zkk K (R a0 3) (23, 20) <|
      if (20 : Int32) ≤ x1 then (
        some (.inl (x1, (x2 + 1), L))
      ) else (
        zkk K (R a0 3) (23, 20) <|
        zkk K (R a0 3) (23, 20) <|
        zck (zin x1 20) <|
        zck (zin x2 103) <|
        zbd (g_X9_spelled K (L (R a0 3) (ztn x1)) (zWch x2)) fun r34 =>
        zck (zin x1 20) <|
        zlt (zupL L (R a0 3) (ztn x1) r34) fun L37 =>
        some (.inl (x1, (x2 + 1), L37))
      )
    )
  )
set_option maxRecDepth 4000 in
theorem ok_b_X9_init_g_43 {G : zG} {K : zK} {R : zR} {M : zM} {L : zL} {a0 : Nat} {x1 : Int32} {x2 : Int32} {r : Option Value} {S' : zS} {x : (Int32 × Int32 × zL) ⊕ ((zL))} (h : b_X9_init_g_43 K R M L a0 x1 x2 = some x) (hk : Sum.elim (P_X9_init_g_43 G K R M a0 r S') (Q_X9_init_g_43 G K R M a0 r S') x) : P_X9_init_g_43 G K R M a0 r S' (x1, x2, L) := by
  show Rn G mt_X9_init 43 [(0, .ref a0), (1, .int x1), (2, .int x2)] [] (M, L, R, K) r S'
  unfold b_X9_init_g_43 at h
  obtain ⟨k_a0z, k_a0, h⟩ := zkk_e h
  refine rn_iload_n (q := 2) 2 rfl zd_X9_init_1.1.2.2.1 ?_
  refine rn_wlen rfl zlj_27 ⟨by decide, by decide⟩ (Nat.le_of_ble_eq_true rfl) zd_X9_init_1.1.2.2.2 zd_X9_init_1.2.1.1.1 ?_
  rcases zif_e h with ⟨hc25, h⟩ | ⟨hc25, h⟩
  · refine rn_icmp_ge_t (tgt := 105) hc25 zd_X9_init_1.2.1.1.2 rfl ?_
    cases h
    exact rn_sub (ls' := []) [] rfl hk
  · refine rn_icmp_ge_f (tgt := 105) hc25 zd_X9_init_1.2.1.1.2 rfl ?_
    obtain ⟨hc26, h⟩ := zck_e h
    refine rn_wch (q := 2) rfl zlj_33 ⟨by decide, by decide⟩ (Nat.le_of_ble_eq_true rfl) 2 rfl hc26 zd_X9_init_1.2.1.2.1 zd_X9_init_1.2.1.2.2 zd_X9_init_1.2.2.1.1 ?_
    refine rn_bipush (v := 32) zd_X9_init_1.2.2.1.2 rfl ?_
    rcases zif_e h with ⟨hc27, h⟩ | ⟨hc27, h⟩
    · refine rn_icmp_ne_f (tgt := 69) hc27 zd_X9_init_1.2.2.2.1 rfl ?_
      refine rn_iinc (v := (x1 + 1)) (ls' := [(1, .int (x1 + 1)), (0, .ref a0), (2, .int x2)]) 1 rfl rfl (by decide) rfl zd_X9_init_1.2.2.2.2 ?_
      refine rn_goto (tgt := 99) zd_X9_init_2.1.1.1.1 rfl ?_
      refine rn_iinc (v := (x2 + 1)) (ls' := [(2, .int (x2 + 1)), (1, .int (x1 + 1)), (0, .ref a0)]) 2 rfl rfl (by decide) rfl zd_X9_init_3.2.1 ?_
      refine rn_goto (tgt := 43) zd_X9_init_3.2.2.1 rfl ?_
      cases h
      exact rn_sub (ls' := [(0, .ref a0), (1, .int (x1 + 1)), (2, .int (x2 + 1))]) [2, 1, 0] rfl hk
    · refine rn_icmp_ne_t (tgt := 69) hc27 zd_X9_init_1.2.2.2.1 rfl ?_
      refine rn_iload_n (q := 1) 1 rfl zd_X9_init_2.1.1.1.2 ?_
      refine rn_aload_n (q := 0) 0 rfl zd_X9_init_2.1.1.2.1 ?_
      obtain ⟨hz28z, hz28, h⟩ := zkk_e h
      refine rn_getR zf_X9_22 (Or.inr ⟨_, rfl⟩) k_a0 hz28z zd_X9_init_2.1.1.2.2 ?_
      refine rn_alen (v := 20) hz28 (Or.inr (Or.inr (Or.inr (Or.inl rfl)))) rfl zd_X9_init_2.1.2.1.1 ?_
      rcases zif_e h with ⟨hc29, h⟩ | ⟨hc29, h⟩
      · refine rn_icmp_ge_t (tgt := 99) hc29 zd_X9_init_2.1.2.1.2 rfl ?_
        refine rn_iinc (v := (x2 + 1)) (ls' := [(2, .int (x2 + 1)), (0, .ref a0), (1, .int x1)]) 2 rfl rfl (by decide) rfl zd_X9_init_3.2.1 ?_
        refine rn_goto (tgt := 43) zd_X9_init_3.2.2.1 rfl ?_
        cases h
        exact rn_sub (ls' := [(0, .ref a0), (1, .int x1), (2, .int (x2 + 1))]) [1, 2, 0] rfl hk
      · refine rn_icmp_ge_f (tgt := 99) hc29 zd_X9_init_2.1.2.1.2 rfl ?_
        refine rn_aload_n (q := 0) 0 rfl zd_X9_init_2.1.2.2.1 ?_
        obtain ⟨hz30z, hz30, h⟩ := zkk_e h
        refine rn_getR zf_X9_22 (Or.inr ⟨_, rfl⟩) k_a0 hz30z zd_X9_init_2.1.2.2.2 ?_
        refine rn_iload_n (q := 1) 1 rfl zd_X9_init_2.2.1.1.1 ?_
        refine rn_aload_n (q := 0) 0 rfl zd_X9_init_2.2.1.1.2 ?_
        obtain ⟨hz31z, hz31, h⟩ := zkk_e h
        refine rn_getR zf_X9_22 (Or.inr ⟨_, rfl⟩) k_a0 hz31z zd_X9_init_2.2.1.2.1 ?_
        refine rn_iload_n (q := 1) 1 rfl zd_X9_init_2.2.1.2.2 ?_
        obtain ⟨hc32, h⟩ := zck_e h
        refine rn_lald hz31 hc32 zd_X9_init_2.2.2.1.1 ?_
        obtain ⟨hc33, h⟩ := zck_e h
        refine rn_wch (q := 2) rfl zlj_33 ⟨by decide, by decide⟩ (Nat.le_of_ble_eq_true rfl) 2 rfl hc33 zd_X9_init_2.2.2.1.2 zd_X9_init_2.2.2.2.1 zd_X9_init_2.2.2.2.2 ?_
        obtain ⟨r34, h35, h⟩ := zbd_e h
        refine rn_callSl (As := [.long (L (R a0 3) (ztn x1)), .int (zWch x2)]) (rest := [.int x1, .ref (R a0 3)]) zl_X9_37 zm_X9_spelled ⟨by decide, by decide⟩ rfl rfl (Nat.le_of_ble_eq_true rfl) zd_X9_init_3.1.1 (ok_X9_spelled_g h35) ?_
        obtain ⟨hc36, h⟩ := zck_e h
        obtain ⟨L37, hL37, h⟩ := zlt_e h
        refine rn_last hL37 hz30 hc36 zd_X9_init_3.1.2 ?_
        refine rn_iinc (v := (x2 + 1)) (ls' := [(2, .int (x2 + 1)), (0, .ref a0), (1, .int x1)]) 2 rfl rfl (by decide) rfl zd_X9_init_3.2.1 ?_
        refine rn_goto (tgt := 43) zd_X9_init_3.2.2.1 rfl ?_
        cases h
        exact rn_sub (ls' := [(0, .ref a0), (1, .int x1), (2, .int (x2 + 1))]) [1, 2, 0] rfl hk
def g_X9_init (K : zK) (R : zR) (M : zM) (L : zL) (a0 : Nat) : Option (zK × zR × zM × zL) :=
  zkk K a0 (9, 6) <|
  zlt K.length fun a1 =>
  zlt (zzM M a1) fun M2 =>
  zlt (zzL L a1) fun L3 =>
  zlt (K ++ [(20, 402)]) fun K4 =>
  zlt (zupR R a0 0 a1) fun R5 =>
  zck (!decide (a1 = 0)) <|
  zlt K4.length fun a7 =>
  zlt (zzM M2 a7) fun M8 =>
  zlt (zzL L3 a7) fun L9 =>
  zlt (K4 ++ [(20, 402)]) fun K10 =>
  zlt (zupR R5 a0 1 a7) fun R11 =>
  zck (!decide (a7 = 0)) <|
  zlt K10.length fun a13 =>
  zlt (zzM M8 a13) fun M14 =>
  zlt (zzL L9 a13) fun L15 =>
  zlt (K10 ++ [(23, 402)]) fun K16 =>
  zlt (zupR R11 a0 2 a13) fun R17 =>
  zck (!decide (a13 = 0)) <|
  zlt K16.length fun a19 =>
  zlt (zzM M14 a19) fun M20 =>
  zlt (zzL L15 a19) fun L21 =>
  zlt (K16 ++ [(23, 20)]) fun K22 =>
  zlt (zupR R17 a0 3 a19) fun R23 =>
  zck (!decide (a19 = 0)) <|
  zbd (zloop zN (fun v => b_X9_init_g_43 K22 R23 M20 v.2.2 a0 v.1 v.2.1) ((0 : Int32), (0 : Int32), L21)) fun e38 =>
  some (K22, R23, M20, e38)
set_option maxRecDepth 4000 in
theorem ok_X9_init_g {G : zG} {K : zK} {R : zR} {M : zM} {L : zL} {a0 : Nat} {K' : zK} {R' : zR} {M' : zM} {L' : zL} (h : g_X9_init K R M L a0 = some (K', R', M', L')) : Rm G mt_X9_init [.ref a0] (M, L, R, K) none (M', L', R', K') := by
  refine rm_rn rfl rfl (Nat.le_of_ble_eq_true rfl) ?_
  show Rn G mt_X9_init 0 [(0, .ref a0)] [] (M, L, R, K) none (M', L', R', K')
  unfold g_X9_init at h
  obtain ⟨k_a0z, k_a0, h⟩ := zkk_e h
  refine rn_aload_n (q := 0) 0 rfl zd_X9_init_0.1.1.1.1 ?_
  refine rn_objInit zb_X9_3 zoi zoc ⟨by decide, by decide⟩ (Nat.le_of_ble_eq_true rfl) zd_X9_init_0.1.1.1.2 ?_
  refine rn_aload_n (q := 0) 0 rfl zd_X9_init_0.1.1.2.1 ?_
  refine rn_sipush (v := 402) zd_X9_init_0.1.1.2.2 rfl ?_
  obtain ⟨a1, ha1, h⟩ := zlt_e h
  obtain ⟨M2, hM2, h⟩ := zlt_e h
  obtain ⟨L3, hL3, h⟩ := zlt_e h
  obtain ⟨K4, hK4, h⟩ := zlt_e h
  refine rn_newaE (at_ := .int) ha1 hM2 hL3 hK4 zqa_int rfl (by decide) (Or.inl ⟨rfl, rfl⟩) zd_X9_init_0.1.2.1.1 ?_
  obtain ⟨R5, hR5, h⟩ := zlt_e h
  obtain ⟨hn6, h⟩ := zck_e h
  refine rn_putR hR5 (zbne hn6) (Or.inr ⟨_, rfl⟩) (fun _ => ⟨rfl, rfl⟩) zf_X9_9 (zkl hK4 k_a0) zd_X9_init_0.1.2.1.2 ?_
  refine rn_aload_n (q := 0) 0 rfl zd_X9_init_0.1.2.2.1 ?_
  refine rn_sipush (v := 402) zd_X9_init_0.1.2.2.2 rfl ?_
  obtain ⟨a7, ha7, h⟩ := zlt_e h
  obtain ⟨M8, hM8, h⟩ := zlt_e h
  obtain ⟨L9, hL9, h⟩ := zlt_e h
  obtain ⟨K10, hK10, h⟩ := zlt_e h
  refine rn_newaE (at_ := .int) ha7 hM8 hL9 hK10 zqa_int rfl (by decide) (Or.inl ⟨rfl, rfl⟩) zd_X9_init_0.2.1.1.1 ?_
  obtain ⟨R11, hR11, h⟩ := zlt_e h
  obtain ⟨hn12, h⟩ := zck_e h
  refine rn_putR hR11 (zbne hn12) (Or.inr ⟨_, rfl⟩) (fun _ => ⟨rfl, rfl⟩) zf_X9_15 (zkl hK10 (zkl hK4 k_a0)) zd_X9_init_0.2.1.1.2 ?_
  refine rn_aload_n (q := 0) 0 rfl zd_X9_init_0.2.1.2.1 ?_
  refine rn_sipush (v := 402) zd_X9_init_0.2.1.2.2 rfl ?_
  obtain ⟨a13, ha13, h⟩ := zlt_e h
  obtain ⟨M14, hM14, h⟩ := zlt_e h
  obtain ⟨L15, hL15, h⟩ := zlt_e h
  obtain ⟨K16, hK16, h⟩ := zlt_e h
  refine rn_newaE (at_ := .long) ha13 hM14 hL15 hK16 zqa_long rfl (by decide) (Or.inr (Or.inr (Or.inr ⟨rfl, rfl⟩))) zd_X9_init_0.2.2.1.1 ?_
  obtain ⟨R17, hR17, h⟩ := zlt_e h
  obtain ⟨hn18, h⟩ := zck_e h
  refine rn_putR hR17 (zbne hn18) (Or.inr ⟨_, rfl⟩) (fun _ => ⟨rfl, rfl⟩) zf_X9_18 (zkl hK16 (zkl hK10 (zkl hK4 k_a0))) zd_X9_init_0.2.2.1.2 ?_
  refine rn_aload_n (q := 0) 0 rfl zd_X9_init_0.2.2.2.1 ?_
  refine rn_bipush (v := 20) zd_X9_init_0.2.2.2.2 rfl ?_
  obtain ⟨a19, ha19, h⟩ := zlt_e h
  obtain ⟨M20, hM20, h⟩ := zlt_e h
  obtain ⟨L21, hL21, h⟩ := zlt_e h
  obtain ⟨K22, hK22, h⟩ := zlt_e h
  refine rn_newaE (at_ := .long) ha19 hM20 hL21 hK22 zqa_long rfl (by decide) (Or.inr (Or.inr (Or.inr ⟨rfl, rfl⟩))) zd_X9_init_1.1.1.1.1 ?_
  obtain ⟨R23, hR23, h⟩ := zlt_e h
  obtain ⟨hn24, h⟩ := zck_e h
  refine rn_putR hR23 (zbne hn24) (Or.inr ⟨_, rfl⟩) (fun _ => ⟨rfl, rfl⟩) zf_X9_22 (zkl hK22 (zkl hK16 (zkl hK10 (zkl hK4 k_a0)))) zd_X9_init_1.1.1.1.2 ?_
  refine rn_iconst (v := 0) zd_X9_init_1.1.1.2.1 rfl ?_
  refine rn_istore_n (q := 1) (ls' := [(1, .int (0 : Int32)), (0, .ref a0)]) (by decide) rfl zd_X9_init_1.1.1.2.2 ?_
  refine rn_iconst (v := 0) zd_X9_init_1.1.2.1.1 rfl ?_
  refine rn_istore_n (q := 2) (ls' := [(2, .int (0 : Int32)), (1, .int (0 : Int32)), (0, .ref a0)]) (by decide) rfl zd_X9_init_1.1.2.1.2 ?_
  obtain ⟨e38, he38, h⟩ := zbd_e h
  refine rn_sub (ls' := [(0, .ref a0), (1, .int (0 : Int32)), (2, .int (0 : Int32))]) [2, 1, 0] rfl (zloop_ok (P := P_X9_init_g_43 G K22 R23 M20 a0 none (M', L', R', K')) (Q := Q_X9_init_g_43 G K22 R23 M20 a0 none (M', L', R', K')) (fun v x hx hq => ok_b_X9_init_g_43 hx hq) _ _ _ he38 ?_)
  show Rn G mt_X9_init 105 [] [] (M20, e38, R23, K22) none (M', L', R', K')
  cases h
  exact rn_vret zd_X9_init_3.2.2.2 rfl
def g_X5_init (K : zK) (R : zR) (M : zM) (L : zL) (a0 : Nat) : Option (zK × zR × zM × zL) :=
  zkk K a0 (5, 10) <|
  zlt K.length fun a1 =>
  zlt (zzM M a1) fun M2 =>
  zlt (zzR R a1) fun R3 =>
  zlt (K ++ [(9, 6)]) fun K4 =>
  zbd4 (g_X9_init K4 R3 M2 L a1) fun K5 R6 M7 L8 =>
  zkk K5 a0 (5, 10) <|
  zkk K5 a1 (9, 6) <|
  zkk K5 a0 (5, 10) <|
  zlt (zupR R6 a0 0 a1) fun R13 =>
  zck (!decide (a1 = 0)) <|
  zlt K5.length fun a15 =>
  zlt (zzM M7 a15) fun M16 =>
  zlt (zzL L8 a15) fun L17 =>
  zlt (K5 ++ [(23, 10)]) fun K18 =>
  zlt (zupR R13 a0 1 a15) fun R19 =>
  zck (!decide (a15 = 0)) <|
  zlt K18.length fun a21 =>
  zlt (zzM M16 a21) fun M22 =>
  zlt (zzL L17 a21) fun L23 =>
  zlt (K18 ++ [(20, 21)]) fun K24 =>
  zlt (zupR R19 a0 2 a21) fun R25 =>
  zck (!decide (a21 = 0)) <|
  some (K24, R25, M22, L23)
set_option maxRecDepth 4000 in
theorem ok_X5_init_g {G : zG} {K : zK} {R : zR} {M : zM} {L : zL} {a0 : Nat} {K' : zK} {R' : zR} {M' : zM} {L' : zL} (h : g_X5_init K R M L a0 = some (K', R', M', L')) : Rm G mt_X5_init [.ref a0] (M, L, R, K) none (M', L', R', K') := by
  refine rm_rn rfl rfl (Nat.le_of_ble_eq_true rfl) ?_
  show Rn G mt_X5_init 0 [(0, .ref a0)] [] (M, L, R, K) none (M', L', R', K')
  unfold g_X5_init at h
  obtain ⟨k_a0z, k_a0, h⟩ := zkk_e h
  refine rn_aload_n (q := 0) 0 rfl zd_X5_init_0.1.1.1.1 ?_
  refine rn_objInit zb_X5_3 zoi zoc ⟨by decide, by decide⟩ (Nat.le_of_ble_eq_true rfl) zd_X5_init_0.1.1.1.2 ?_
  refine rn_aload_n (q := 0) 0 rfl zd_X5_init_0.1.1.2.1 ?_
  obtain ⟨a1, ha1, h⟩ := zlt_e h
  obtain ⟨M2, hM2, h⟩ := zlt_e h
  obtain ⟨R3, hR3, h⟩ := zlt_e h
  obtain ⟨K4, hK4, h⟩ := zlt_e h
  refine rn_newE ha1 hM2 hR3 hK4 zc_X9 zq_X5_9 zqi_X9 zqn_X9 zd_X5_init_0.1.1.2.2 ?_
  refine rn_dup zd_X5_init_0.1.2.1.1 rfl ?_
  obtain ⟨K5, R6, M7, L8, h9, h⟩ := zbd4_e h
  refine rn_callI (As := []) (rest := [.ref a1, .ref a0]) zl_X5_11 zm_X9_init ⟨by decide, by decide⟩ rfl rfl (Nat.le_of_ble_eq_true rfl) zd_X5_init_0.1.2.1.2 (ok_X9_init_g h9) ?_
  obtain ⟨hz10z, hz10, h⟩ := zkk_e h
  obtain ⟨hz11z, hz11, h⟩ := zkk_e h
  obtain ⟨hz12z, hz12, h⟩ := zkk_e h
  obtain ⟨R13, hR13, h⟩ := zlt_e h
  obtain ⟨hn14, h⟩ := zck_e h
  refine rn_putR hR13 (zbne hn14) (Or.inl ⟨_, rfl⟩) (fun _ => ⟨rfl, rfl⟩) zf_X5_12 hz12 zd_X5_init_0.1.2.2.1 ?_
  refine rn_aload_n (q := 0) 0 rfl zd_X5_init_0.1.2.2.2 ?_
  refine rn_bipush (v := 10) zd_X5_init_0.2.1.1.1 rfl ?_
  obtain ⟨a15, ha15, h⟩ := zlt_e h
  obtain ⟨M16, hM16, h⟩ := zlt_e h
  obtain ⟨L17, hL17, h⟩ := zlt_e h
  obtain ⟨K18, hK18, h⟩ := zlt_e h
  refine rn_newaE (at_ := .long) ha15 hM16 hL17 hK18 zqa_long rfl (by decide) (Or.inr (Or.inr (Or.inr ⟨rfl, rfl⟩))) zd_X5_init_0.2.1.1.2 ?_
  obtain ⟨R19, hR19, h⟩ := zlt_e h
  obtain ⟨hn20, h⟩ := zck_e h
  refine rn_putR hR19 (zbne hn20) (Or.inr ⟨_, rfl⟩) (fun _ => ⟨rfl, rfl⟩) zf_X5_18 (zkl hK18 hz10) zd_X5_init_0.2.1.2.1 ?_
  refine rn_aload_n (q := 0) 0 rfl zd_X5_init_0.2.1.2.2 ?_
  refine rn_bipush (v := 21) zd_X5_init_0.2.2.1.1 rfl ?_
  obtain ⟨a21, ha21, h⟩ := zlt_e h
  obtain ⟨M22, hM22, h⟩ := zlt_e h
  obtain ⟨L23, hL23, h⟩ := zlt_e h
  obtain ⟨K24, hK24, h⟩ := zlt_e h
  refine rn_newaE (at_ := .int) ha21 hM22 hL23 hK24 zqa_int rfl (by decide) (Or.inl ⟨rfl, rfl⟩) zd_X5_init_0.2.2.1.2 ?_
  obtain ⟨R25, hR25, h⟩ := zlt_e h
  obtain ⟨hn26, h⟩ := zck_e h
  refine rn_putR hR25 (zbne hn26) (Or.inr ⟨_, rfl⟩) (fun _ => ⟨rfl, rfl⟩) zf_X5_22 (zkl hK24 (zkl hK18 hz10)) zd_X5_init_0.2.2.2.1 ?_
  cases h
  exact rn_vret zd_X5_init_0.2.2.2.2 rfl
def g_X7_clear (K : zK) (R : zR) (M : zM) (a0 : Nat) : Option (zM) :=
  zkk K a0 (7, 11) <|
  zkk K (R a0 0) (3, 5) <|
  zbd (g_X3_beSeen K R M (R a0 0) (3 : Int32)) fun M2 =>
  zkk K (R a0 1) (3, 5) <|
  zbd (g_X3_beNumber K R M2 (R a0 1) (0 : Int32)) fun M5 =>
  zlt (zup M5 a0 5 (0 : Int32)) fun M7 =>
  zlt (zup M7 a0 6 (0 : Int32)) fun M8 =>
  zlt (zup M8 a0 7 (0 : Int32)) fun M9 =>
  zlt (zup M9 a0 8 (0 : Int32)) fun M10 =>
  zlt (zup M10 a0 9 (7 : Int32)) fun M11 =>
  zlt (zup M11 a0 10 (0 : Int32)) fun M12 =>
  some M12
set_option maxRecDepth 4000 in
theorem ok_X7_clear_g {G : zG} {K : zK} {R : zR} {M : zM} {L : zL} {a0 : Nat} {M' : zM} (h : g_X7_clear K R M a0 = some M') : Rm G mt_X7_clear [.ref a0] (M, L, R, K) none (M', L, R, K) := by
  refine rm_rn rfl rfl (Nat.le_of_ble_eq_true rfl) ?_
  show Rn G mt_X7_clear 0 [(0, .ref a0)] [] (M, L, R, K) none (M', L, R, K)
  unfold g_X7_clear at h
  obtain ⟨k_a0z, k_a0, h⟩ := zkk_e h
  refine rn_aload_n (q := 0) 0 rfl zd_X7_clear_0.1.1.1.1 ?_
  obtain ⟨hz1z, hz1, h⟩ := zkk_e h
  refine rn_getR zf_X7_12 (Or.inl ⟨_, rfl⟩) k_a0 hz1z zd_X7_clear_0.1.1.1.2 ?_
  refine rn_iconst (v := 3) zd_X7_clear_0.1.1.2.1 rfl ?_
  obtain ⟨M2, h3, h⟩ := zbd_e h
  refine rn_callVv (As := [.int (3 : Int32)]) (rest := []) zl_X7_34 zm_X3_beSeen ⟨by decide, by decide⟩ (ci := 3) rfl rfl (by decide) hz1 rfl rfl (Nat.le_of_ble_eq_true rfl) zd_X7_clear_0.1.1.2.2 (ok_X3_beSeen_g h3) ?_
  refine rn_aload_n (q := 0) 0 rfl zd_X7_clear_0.1.2.1.1 ?_
  obtain ⟨hz4z, hz4, h⟩ := zkk_e h
  refine rn_getR zf_X7_18 (Or.inl ⟨_, rfl⟩) k_a0 hz4z zd_X7_clear_0.1.2.1.2 ?_
  refine rn_iconst (v := 0) zd_X7_clear_0.1.2.2.1 rfl ?_
  obtain ⟨M5, h6, h⟩ := zbd_e h
  refine rn_callVv (As := [.int (0 : Int32)]) (rest := []) zl_X7_38 zm_X3_beNumber ⟨by decide, by decide⟩ (ci := 3) rfl rfl (by decide) hz4 rfl rfl (Nat.le_of_ble_eq_true rfl) zd_X7_clear_0.1.2.2.2 (ok_X3_beNumber_g h6) ?_
  refine rn_aload_n (q := 0) 0 rfl zd_X7_clear_0.2.1.1.1 ?_
  refine rn_iconst (v := 0) zd_X7_clear_0.2.1.1.2 rfl ?_
  obtain ⟨M7, hM7, h⟩ := zlt_e h
  refine rn_putI hM7 zf_X7_41 k_a0 zd_X7_clear_0.2.1.2.1 ?_
  refine rn_aload_n (q := 0) 0 rfl zd_X7_clear_0.2.1.2.2 ?_
  refine rn_iconst (v := 0) zd_X7_clear_0.2.2.1.1 rfl ?_
  obtain ⟨M8, hM8, h⟩ := zlt_e h
  refine rn_putB (Or.inl rfl) hM8 zf_X7_45 k_a0 zd_X7_clear_0.2.2.1.2 ?_
  refine rn_aload_n (q := 0) 0 rfl zd_X7_clear_0.2.2.2.1 ?_
  refine rn_iconst (v := 0) zd_X7_clear_0.2.2.2.2 rfl ?_
  obtain ⟨M9, hM9, h⟩ := zlt_e h
  refine rn_putB (Or.inl rfl) hM9 zf_X7_49 k_a0 zd_X7_clear_1.1.1.1 ?_
  refine rn_aload_n (q := 0) 0 rfl zd_X7_clear_1.1.1.2 ?_
  refine rn_iconst (v := 0) zd_X7_clear_1.1.2.1 rfl ?_
  obtain ⟨M10, hM10, h⟩ := zlt_e h
  refine rn_putI hM10 zf_X7_52 k_a0 zd_X7_clear_1.1.2.2.1 ?_
  refine rn_aload_n (q := 0) 0 rfl zd_X7_clear_1.1.2.2.2 ?_
  refine rn_bipush (v := 7) zd_X7_clear_1.2.1.1 rfl ?_
  obtain ⟨M11, hM11, h⟩ := zlt_e h
  refine rn_putI hM11 zf_X7_55 k_a0 zd_X7_clear_1.2.1.2.1 ?_
  refine rn_aload_n (q := 0) 0 rfl zd_X7_clear_1.2.1.2.2 ?_
  refine rn_iconst (v := 0) zd_X7_clear_1.2.2.1 rfl ?_
  obtain ⟨M12, hM12, h⟩ := zlt_e h
  refine rn_putI hM12 zf_X7_58 k_a0 zd_X7_clear_1.2.2.2.1 ?_
  cases h
  exact rn_vret zd_X7_clear_1.2.2.2.2 rfl
abbrev P_X6_begin_g_22 (G : zG) (K : zK) (R : zR) (a0 : Nat) (a1 : Nat) (r : Option Value) (S' : zS) (v : Int32 × zM × zL) : Prop := Rn G mt_X6_begin 22 [(0, .ref a0), (1, .ref a1), (2, .int v.1)] [] (v.2.1, v.2.2, R, K) r S'
abbrev Q_X6_begin_g_22 (G : zG) (K : zK) (R : zR) (a0 : Nat) (a1 : Nat) (r : Option Value) (S' : zS) : (zM × zL) → Prop := (fun e => Rn G mt_X6_begin 53 [] [] (e.1, e.2, R, K) r S')
def b_X6_begin_g_22 (K : zK) (R : zR) (M : zM) (L : zL) (a0 : Nat) (a1 : Nat) (x2 : Int32) : Option ((Int32 × zM × zL) ⊕ ((zM × zL))) :=
  zkk K a0 (6, 8) <|
  zkk K a1 (7, 11) <|
  if (M a1 5) ≤ x2 then (
    some (.inr (M, L))
  ) else (
    if (10 : Int32) ≤ x2 then (
      some (.inr (M, L))
    ) else (
      zkk K (R a1 2) (20, 10) <|
      zck (zin x2 10) <|
      zbd2 (g_X6_insert K R M L a0 x2 (M (R a1 2) (ztn x2))) fun M9 L10 =>
      some (.inl ((x2 + 1), M9, L10))
    )
  )
set_option maxRecDepth 4000 in
theorem ok_b_X6_begin_g_22 {G : zG} {K : zK} {R : zR} {M : zM} {L : zL} {a0 : Nat} {a1 : Nat} {x2 : Int32} {r : Option Value} {S' : zS} {x : (Int32 × zM × zL) ⊕ ((zM × zL))} (h : b_X6_begin_g_22 K R M L a0 a1 x2 = some x) (hk : Sum.elim (P_X6_begin_g_22 G K R a0 a1 r S') (Q_X6_begin_g_22 G K R a0 a1 r S') x) : P_X6_begin_g_22 G K R a0 a1 r S' (x2, M, L) := by
  show Rn G mt_X6_begin 22 [(0, .ref a0), (1, .ref a1), (2, .int x2)] [] (M, L, R, K) r S'
  unfold b_X6_begin_g_22 at h
  obtain ⟨k_a0z, k_a0, h⟩ := zkk_e h
  obtain ⟨k_a1z, k_a1, h⟩ := zkk_e h
  refine rn_iload_n (q := 2) 2 rfl zd_X6_begin_0.2.2.2.1 ?_
  refine rn_aload_n (q := 1) 1 rfl zd_X6_begin_0.2.2.2.2 ?_
  refine rn_getI zf_X6_38 (Or.inl rfl) k_a1 zd_X6_begin_1.1.1.1 ?_
  rcases zif_e h with ⟨hc5, h⟩ | ⟨hc5, h⟩
  · refine rn_icmp_ge_t (tgt := 53) hc5 zd_X6_begin_1.1.1.2.1 rfl ?_
    cases h
    exact rn_sub (ls' := []) [] rfl hk
  · refine rn_icmp_ge_f (tgt := 53) hc5 zd_X6_begin_1.1.1.2.1 rfl ?_
    refine rn_iload_n (q := 2) 2 rfl zd_X6_begin_1.1.1.2.2 ?_
    refine rn_bipush (v := 10) zd_X6_begin_1.1.2.1.1 rfl ?_
    rcases zif_e h with ⟨hc6, h⟩ | ⟨hc6, h⟩
    · refine rn_icmp_ge_t (tgt := 53) hc6 zd_X6_begin_1.1.2.1.2 rfl ?_
      cases h
      exact rn_sub (ls' := []) [] rfl hk
    · refine rn_icmp_ge_f (tgt := 53) hc6 zd_X6_begin_1.1.2.1.2 rfl ?_
      refine rn_aload_n (q := 0) 0 rfl zd_X6_begin_1.1.2.2.1 ?_
      refine rn_iload_n (q := 2) 2 rfl zd_X6_begin_1.1.2.2.2 ?_
      refine rn_aload_n (q := 1) 1 rfl zd_X6_begin_1.2.1.1.1 ?_
      obtain ⟨hz7z, hz7, h⟩ := zkk_e h
      refine rn_getR zf_X6_41 (Or.inr ⟨_, rfl⟩) k_a1 hz7z zd_X6_begin_1.2.1.1.2 ?_
      refine rn_iload_n (q := 2) 2 rfl zd_X6_begin_1.2.1.2.1 ?_
      obtain ⟨hc8, h⟩ := zck_e h
      refine rn_iald hz7 hc8 zd_X6_begin_1.2.1.2.2 ?_
      obtain ⟨M9, L10, h11, h⟩ := zbd2_e h
      refine rn_callVv (As := [.int x2, .int (M (R a1 2) (ztn x2))]) (rest := []) zl_X6_44 zm_X6_insert ⟨by decide, by decide⟩ (ci := 6) rfl rfl (by decide) k_a0 rfl rfl (Nat.le_of_ble_eq_true rfl) zd_X6_begin_1.2.2.1.1 (ok_X6_insert_g h11) ?_
      refine rn_iinc (v := (x2 + 1)) (ls' := [(2, .int (x2 + 1)), (0, .ref a0), (1, .ref a1)]) 2 rfl rfl (by decide) rfl zd_X6_begin_1.2.2.1.2 ?_
      refine rn_goto (tgt := 22) zd_X6_begin_1.2.2.2.1 rfl ?_
      cases h
      exact rn_sub (ls' := [(0, .ref a0), (1, .ref a1), (2, .int (x2 + 1))]) [1, 2, 0] rfl hk
def g_X6_begin (K : zK) (R : zR) (M : zM) (L : zL) (a0 : Nat) (a1 : Nat) : Option (zM × zL) :=
  zkk K a0 (6, 8) <|
  zkk K a1 (7, 11) <|
  zlt (zup M a0 4 (0 : Int32)) fun M1 =>
  zlt (zup M1 a0 5 (0 : Int32)) fun M2 =>
  zlt (zup M2 a0 6 (0 : Int32)) fun M3 =>
  zlt (zup M3 a0 7 (0 : Int32)) fun M4 =>
  zbd (zloop zN (fun v => b_X6_begin_g_22 K R v.2.1 v.2.2 a0 a1 v.1) ((0 : Int32), M4, L)) fun e12 =>
  some (e12.1, e12.2)
set_option maxRecDepth 4000 in
theorem ok_X6_begin_g {G : zG} {K : zK} {R : zR} {M : zM} {L : zL} {a0 : Nat} {a1 : Nat} {M' : zM} {L' : zL} (h : g_X6_begin K R M L a0 a1 = some (M', L')) : Rm G mt_X6_begin [.ref a0, .ref a1] (M, L, R, K) none (M', L', R, K) := by
  refine rm_rn rfl rfl (Nat.le_of_ble_eq_true rfl) ?_
  show Rn G mt_X6_begin 0 [(0, .ref a0), (1, .ref a1)] [] (M, L, R, K) none (M', L', R, K)
  unfold g_X6_begin at h
  obtain ⟨k_a0z, k_a0, h⟩ := zkk_e h
  obtain ⟨k_a1z, k_a1, h⟩ := zkk_e h
  refine rn_aload_n (q := 0) 0 rfl zd_X6_begin_0.1.1.1.1 ?_
  refine rn_iconst (v := 0) zd_X6_begin_0.1.1.1.2 rfl ?_
  obtain ⟨M1, hM1, h⟩ := zlt_e h
  refine rn_putI hM1 zf_X6_25 k_a0 zd_X6_begin_0.1.1.2.1 ?_
  refine rn_aload_n (q := 0) 0 rfl zd_X6_begin_0.1.1.2.2 ?_
  refine rn_iconst (v := 0) zd_X6_begin_0.1.2.1.1 rfl ?_
  obtain ⟨M2, hM2, h⟩ := zlt_e h
  refine rn_putI hM2 zf_X6_29 k_a0 zd_X6_begin_0.1.2.1.2 ?_
  refine rn_aload_n (q := 0) 0 rfl zd_X6_begin_0.1.2.2.1 ?_
  refine rn_iconst (v := 0) zd_X6_begin_0.1.2.2.2 rfl ?_
  obtain ⟨M3, hM3, h⟩ := zlt_e h
  refine rn_putI hM3 zf_X6_32 k_a0 zd_X6_begin_0.2.1.1.1 ?_
  refine rn_aload_n (q := 0) 0 rfl zd_X6_begin_0.2.1.1.2 ?_
  refine rn_iconst (v := 0) zd_X6_begin_0.2.1.2.1 rfl ?_
  obtain ⟨M4, hM4, h⟩ := zlt_e h
  refine rn_putI hM4 zf_X6_35 k_a0 zd_X6_begin_0.2.1.2.2 ?_
  refine rn_iconst (v := 0) zd_X6_begin_0.2.2.1.1 rfl ?_
  refine rn_istore_n (q := 2) (ls' := [(2, .int (0 : Int32)), (0, .ref a0), (1, .ref a1)]) (by decide) rfl zd_X6_begin_0.2.2.1.2 ?_
  obtain ⟨e12, he12, h⟩ := zbd_e h
  refine rn_sub (ls' := [(0, .ref a0), (1, .ref a1), (2, .int (0 : Int32))]) [1, 2, 0] rfl (zloop_ok (P := P_X6_begin_g_22 G K R a0 a1 none (M', L', R, K)) (Q := Q_X6_begin_g_22 G K R a0 a1 none (M', L', R, K)) (fun v x hx hq => ok_b_X6_begin_g_22 hx hq) _ _ _ he12 ?_)
  show Rn G mt_X6_begin 53 [] [] (e12.1, e12.2, R, K) none (M', L', R, K)
  cases h
  exact rn_vret zd_X6_begin_1.2.2.2.2 rfl
def g_X7_init (K : zK) (R : zR) (M : zM) (L : zL) (a0 : Nat) : Option (zK × zR × zM × zL) :=
  zkk K a0 (7, 11) <|
  zlt K.length fun a1 =>
  zlt (zzM M a1) fun M2 =>
  zlt (zzR R a1) fun R3 =>
  zlt (K ++ [(3, 5)]) fun K4 =>
  zbd4 (g_X3_init K4 R3 M2 L a1) fun K5 R6 M7 L8 =>
  zkk K5 a0 (7, 11) <|
  zkk K5 a1 (3, 5) <|
  zkk K5 a0 (7, 11) <|
  zlt (zupR R6 a0 0 a1) fun R13 =>
  zck (!decide (a1 = 0)) <|
  zlt K5.length fun a15 =>
  zlt (zzM M7 a15) fun M16 =>
  zlt (zzR R13 a15) fun R17 =>
  zlt (K5 ++ [(3, 5)]) fun K18 =>
  zbd4 (g_X3_init K18 R17 M16 L8 a15) fun K19 R20 M21 L22 =>
  zkk K19 a0 (7, 11) <|
  zkk K19 a15 (3, 5) <|
  zkk K19 a0 (7, 11) <|
  zlt (zupR R20 a0 1 a15) fun R27 =>
  zck (!decide (a15 = 0)) <|
  zlt K19.length fun a29 =>
  zlt (zzM M21 a29) fun M30 =>
  zlt (zzL L22 a29) fun L31 =>
  zlt (K19 ++ [(20, 10)]) fun K32 =>
  zlt (zupR R27 a0 2 a29) fun R33 =>
  zck (!decide (a29 = 0)) <|
  zlt K32.length fun a35 =>
  zlt (zzM M30 a35) fun M36 =>
  zlt (zzL L31 a35) fun L37 =>
  zlt (K32 ++ [(20, 7)]) fun K38 =>
  zlt (zupR R33 a0 3 a35) fun R39 =>
  zck (!decide (a35 = 0)) <|
  zlt K38.length fun a41 =>
  zlt (zzM M36 a41) fun M42 =>
  zlt (zzL L37 a41) fun L43 =>
  zlt (K38 ++ [(20, 10)]) fun K44 =>
  zlt (zupR R39 a0 4 a41) fun R45 =>
  zck (!decide (a41 = 0)) <|
  zbd (g_X7_clear K44 R45 M42 a0) fun M47 =>
  some (K44, R45, M47, L43)
set_option maxRecDepth 4000 in
theorem ok_X7_init_g {G : zG} {K : zK} {R : zR} {M : zM} {L : zL} {a0 : Nat} {K' : zK} {R' : zR} {M' : zM} {L' : zL} (h : g_X7_init K R M L a0 = some (K', R', M', L')) : Rm G mt_X7_init [.ref a0] (M, L, R, K) none (M', L', R', K') := by
  refine rm_rn rfl rfl (Nat.le_of_ble_eq_true rfl) ?_
  show Rn G mt_X7_init 0 [(0, .ref a0)] [] (M, L, R, K) none (M', L', R', K')
  unfold g_X7_init at h
  obtain ⟨k_a0z, k_a0, h⟩ := zkk_e h
  refine rn_aload_n (q := 0) 0 rfl zd_X7_init_0.1.1.1.1 ?_
  refine rn_objInit zb_X7_3 zoi zoc ⟨by decide, by decide⟩ (Nat.le_of_ble_eq_true rfl) zd_X7_init_0.1.1.1.2 ?_
  refine rn_aload_n (q := 0) 0 rfl zd_X7_init_0.1.1.2.1 ?_
  obtain ⟨a1, ha1, h⟩ := zlt_e h
  obtain ⟨M2, hM2, h⟩ := zlt_e h
  obtain ⟨R3, hR3, h⟩ := zlt_e h
  obtain ⟨K4, hK4, h⟩ := zlt_e h
  refine rn_newE ha1 hM2 hR3 hK4 zc_X3 zq_X7_9 zqi_X3 zqn_X3 zd_X7_init_0.1.1.2.2 ?_
  refine rn_dup zd_X7_init_0.1.2.1.1 rfl ?_
  obtain ⟨K5, R6, M7, L8, h9, h⟩ := zbd4_e h
  refine rn_callI (As := []) (rest := [.ref a1, .ref a0]) zl_X7_11 zm_X3_init ⟨by decide, by decide⟩ rfl rfl (Nat.le_of_ble_eq_true rfl) zd_X7_init_0.1.2.1.2 (ok_X3_init_g h9) ?_
  obtain ⟨hz10z, hz10, h⟩ := zkk_e h
  obtain ⟨hz11z, hz11, h⟩ := zkk_e h
  obtain ⟨hz12z, hz12, h⟩ := zkk_e h
  obtain ⟨R13, hR13, h⟩ := zlt_e h
  obtain ⟨hn14, h⟩ := zck_e h
  refine rn_putR hR13 (zbne hn14) (Or.inl ⟨_, rfl⟩) (fun _ => ⟨rfl, rfl⟩) zf_X7_12 hz12 zd_X7_init_0.1.2.2.1 ?_
  refine rn_aload_n (q := 0) 0 rfl zd_X7_init_0.1.2.2.2 ?_
  obtain ⟨a15, ha15, h⟩ := zlt_e h
  obtain ⟨M16, hM16, h⟩ := zlt_e h
  obtain ⟨R17, hR17, h⟩ := zlt_e h
  obtain ⟨K18, hK18, h⟩ := zlt_e h
  refine rn_newE ha15 hM16 hR17 hK18 zc_X3 zq_X7_9 zqi_X3 zqn_X3 zd_X7_init_0.2.1.1.1 ?_
  refine rn_dup zd_X7_init_0.2.1.1.2 rfl ?_
  obtain ⟨K19, R20, M21, L22, h23, h⟩ := zbd4_e h
  refine rn_callI (As := []) (rest := [.ref a15, .ref a0]) zl_X7_11 zm_X3_init ⟨by decide, by decide⟩ rfl rfl (Nat.le_of_ble_eq_true rfl) zd_X7_init_0.2.1.2.1 (ok_X3_init_g h23) ?_
  obtain ⟨hz24z, hz24, h⟩ := zkk_e h
  obtain ⟨hz25z, hz25, h⟩ := zkk_e h
  obtain ⟨hz26z, hz26, h⟩ := zkk_e h
  obtain ⟨R27, hR27, h⟩ := zlt_e h
  obtain ⟨hn28, h⟩ := zck_e h
  refine rn_putR hR27 (zbne hn28) (Or.inl ⟨_, rfl⟩) (fun _ => ⟨rfl, rfl⟩) zf_X7_18 hz26 zd_X7_init_0.2.1.2.2 ?_
  refine rn_aload_n (q := 0) 0 rfl zd_X7_init_0.2.2.1.1 ?_
  refine rn_bipush (v := 10) zd_X7_init_0.2.2.1.2 rfl ?_
  obtain ⟨a29, ha29, h⟩ := zlt_e h
  obtain ⟨M30, hM30, h⟩ := zlt_e h
  obtain ⟨L31, hL31, h⟩ := zlt_e h
  obtain ⟨K32, hK32, h⟩ := zlt_e h
  refine rn_newaE (at_ := .int) ha29 hM30 hL31 hK32 zqa_int rfl (by decide) (Or.inl ⟨rfl, rfl⟩) zd_X7_init_0.2.2.2.1 ?_
  obtain ⟨R33, hR33, h⟩ := zlt_e h
  obtain ⟨hn34, h⟩ := zck_e h
  refine rn_putR hR33 (zbne hn34) (Or.inr ⟨_, rfl⟩) (fun _ => ⟨rfl, rfl⟩) zf_X7_21 (zkl hK32 hz24) zd_X7_init_0.2.2.2.2 ?_
  refine rn_aload_n (q := 0) 0 rfl zd_X7_init_1.1.1.1 ?_
  refine rn_bipush (v := 7) zd_X7_init_1.1.1.2 rfl ?_
  obtain ⟨a35, ha35, h⟩ := zlt_e h
  obtain ⟨M36, hM36, h⟩ := zlt_e h
  obtain ⟨L37, hL37, h⟩ := zlt_e h
  obtain ⟨K38, hK38, h⟩ := zlt_e h
  refine rn_newaE (at_ := .int) ha35 hM36 hL37 hK38 zqa_int rfl (by decide) (Or.inl ⟨rfl, rfl⟩) zd_X7_init_1.1.2.1 ?_
  obtain ⟨R39, hR39, h⟩ := zlt_e h
  obtain ⟨hn40, h⟩ := zck_e h
  refine rn_putR hR39 (zbne hn40) (Or.inr ⟨_, rfl⟩) (fun _ => ⟨rfl, rfl⟩) zf_X7_25 (zkl hK38 (zkl hK32 hz24)) zd_X7_init_1.1.2.2.1 ?_
  refine rn_aload_n (q := 0) 0 rfl zd_X7_init_1.1.2.2.2 ?_
  refine rn_bipush (v := 10) zd_X7_init_1.2.1.1 rfl ?_
  obtain ⟨a41, ha41, h⟩ := zlt_e h
  obtain ⟨M42, hM42, h⟩ := zlt_e h
  obtain ⟨L43, hL43, h⟩ := zlt_e h
  obtain ⟨K44, hK44, h⟩ := zlt_e h
  refine rn_newaE (at_ := .int) ha41 hM42 hL43 hK44 zqa_int rfl (by decide) (Or.inl ⟨rfl, rfl⟩) zd_X7_init_1.2.1.2.1 ?_
  obtain ⟨R45, hR45, h⟩ := zlt_e h
  obtain ⟨hn46, h⟩ := zck_e h
  refine rn_putR hR45 (zbne hn46) (Or.inr ⟨_, rfl⟩) (fun _ => ⟨rfl, rfl⟩) zf_X7_28 (zkl hK44 (zkl hK38 (zkl hK32 hz24))) zd_X7_init_1.2.1.2.2 ?_
  refine rn_aload_n (q := 0) 0 rfl zd_X7_init_1.2.2.1 ?_
  obtain ⟨M47, h48, h⟩ := zbd_e h
  refine rn_callVv (As := []) (rest := []) zl_X7_31 zm_X7_clear ⟨by decide, by decide⟩ (ci := 7) rfl rfl (by decide) (zkl hK44 (zkl hK38 (zkl hK32 hz24))) rfl rfl (Nat.le_of_ble_eq_true rfl) zd_X7_init_1.2.2.2.1 (ok_X7_clear_g h48) ?_
  cases h
  exact rn_vret zd_X7_init_1.2.2.2.2 rfl
def g_X8_init (K : zK) (R : zR) (M : zM) (L : zL) (a0 : Nat) : Option (zK × zR × zM × zL) :=
  zkk K a0 (8, 2) <|
  zlt K.length fun a1 =>
  zlt (zzM M a1) fun M2 =>
  zlt (zzL L a1) fun L3 =>
  zlt (K ++ [(21, 2000)]) fun K4 =>
  zlt (zupR R a0 0 a1) fun R5 =>
  zck (!decide (a1 = 0)) <|
  some (K4, R5, M2, L3)
set_option maxRecDepth 4000 in
theorem ok_X8_init_g {G : zG} {K : zK} {R : zR} {M : zM} {L : zL} {a0 : Nat} {K' : zK} {R' : zR} {M' : zM} {L' : zL} (h : g_X8_init K R M L a0 = some (K', R', M', L')) : Rm G mt_X8_init [.ref a0] (M, L, R, K) none (M', L', R', K') := by
  refine rm_rn rfl rfl (Nat.le_of_ble_eq_true rfl) ?_
  show Rn G mt_X8_init 0 [(0, .ref a0)] [] (M, L, R, K) none (M', L', R', K')
  unfold g_X8_init at h
  obtain ⟨k_a0z, k_a0, h⟩ := zkk_e h
  refine rn_aload_n (q := 0) 0 rfl zd_X8_init_0.1.1 ?_
  refine rn_objInit zb_X8_3 zoi zoc ⟨by decide, by decide⟩ (Nat.le_of_ble_eq_true rfl) zd_X8_init_0.1.2.1 ?_
  refine rn_aload_n (q := 0) 0 rfl zd_X8_init_0.1.2.2 ?_
  refine rn_sipush (v := 2000) zd_X8_init_0.2.1.1 rfl ?_
  obtain ⟨a1, ha1, h⟩ := zlt_e h
  obtain ⟨M2, hM2, h⟩ := zlt_e h
  obtain ⟨L3, hL3, h⟩ := zlt_e h
  obtain ⟨K4, hK4, h⟩ := zlt_e h
  refine rn_newaE (at_ := .byte) ha1 hM2 hL3 hK4 zqa_byte rfl (by decide) (Or.inr (Or.inl ⟨rfl, rfl⟩)) zd_X8_init_0.2.1.2 ?_
  obtain ⟨R5, hR5, h⟩ := zlt_e h
  obtain ⟨hn6, h⟩ := zck_e h
  refine rn_putR hR5 (zbne hn6) (Or.inr ⟨_, rfl⟩) (fun _ => ⟨rfl, rfl⟩) zf_X8_9 (zkl hK4 k_a0) zd_X8_init_0.2.2.1 ?_
  cases h
  exact rn_vret zd_X8_init_0.2.2.2 rfl
def g_X10_init (K : zK) (R : zR) (M : zM) (L : zL) (a0 : Nat) : Option (zK × zR × zM × zL) :=
  zkk K a0 (10, 11) <|
  zlt K.length fun a1 =>
  zlt (zzM M a1) fun M2 =>
  zlt (zzL L a1) fun L3 =>
  zlt (K ++ [(20, 20)]) fun K4 =>
  zlt (zupR R a0 0 a1) fun R5 =>
  zck (!decide (a1 = 0)) <|
  zlt K4.length fun a7 =>
  zlt (zzM M2 a7) fun M8 =>
  zlt (zzL L3 a7) fun L9 =>
  zlt (K4 ++ [(20, 20)]) fun K10 =>
  zlt (zupR R5 a0 1 a7) fun R11 =>
  zck (!decide (a7 = 0)) <|
  zlt K10.length fun a13 =>
  zlt (zzM M8 a13) fun M14 =>
  zlt (zzL L9 a13) fun L15 =>
  zlt (K10 ++ [(20, 10)]) fun K16 =>
  zlt (zupR R11 a0 2 a13) fun R17 =>
  zck (!decide (a13 = 0)) <|
  zlt K16.length fun a19 =>
  zlt (zzM M14 a19) fun M20 =>
  zlt (zzL L15 a19) fun L21 =>
  zlt (K16 ++ [(20, 10)]) fun K22 =>
  zlt (zupR R17 a0 3 a19) fun R23 =>
  zck (!decide (a19 = 0)) <|
  zlt K22.length fun a25 =>
  zlt (zzM M20 a25) fun M26 =>
  zlt (zzL L21 a25) fun L27 =>
  zlt (K22 ++ [(20, 10)]) fun K28 =>
  zlt (zupR R23 a0 4 a25) fun R29 =>
  zck (!decide (a25 = 0)) <|
  zlt K28.length fun a31 =>
  zlt (zzM M26 a31) fun M32 =>
  zlt (zzR R29 a31) fun R33 =>
  zlt (K28 ++ [(6, 8)]) fun K34 =>
  zbd4 (g_X6_init K34 R33 M32 L27 a31) fun K35 R36 M37 L38 =>
  zkk K35 a0 (10, 11) <|
  zkk K35 a31 (6, 8) <|
  zkk K35 a0 (10, 11) <|
  zlt (zupR R36 a0 5 a31) fun R43 =>
  zck (!decide (a31 = 0)) <|
  some (K35, R43, M37, L38)
set_option maxRecDepth 4000 in
theorem ok_X10_init_g {G : zG} {K : zK} {R : zR} {M : zM} {L : zL} {a0 : Nat} {K' : zK} {R' : zR} {M' : zM} {L' : zL} (h : g_X10_init K R M L a0 = some (K', R', M', L')) : Rm G mt_X10_init [.ref a0] (M, L, R, K) none (M', L', R', K') := by
  refine rm_rn rfl rfl (Nat.le_of_ble_eq_true rfl) ?_
  show Rn G mt_X10_init 0 [(0, .ref a0)] [] (M, L, R, K) none (M', L', R', K')
  unfold g_X10_init at h
  obtain ⟨k_a0z, k_a0, h⟩ := zkk_e h
  refine rn_aload_n (q := 0) 0 rfl zd_X10_init_0.1.1.1.1 ?_
  refine rn_objInit zb_X10_3 zoi zoc ⟨by decide, by decide⟩ (Nat.le_of_ble_eq_true rfl) zd_X10_init_0.1.1.1.2 ?_
  refine rn_aload_n (q := 0) 0 rfl zd_X10_init_0.1.1.2.1 ?_
  refine rn_bipush (v := 20) zd_X10_init_0.1.1.2.2 rfl ?_
  obtain ⟨a1, ha1, h⟩ := zlt_e h
  obtain ⟨M2, hM2, h⟩ := zlt_e h
  obtain ⟨L3, hL3, h⟩ := zlt_e h
  obtain ⟨K4, hK4, h⟩ := zlt_e h
  refine rn_newaE (at_ := .int) ha1 hM2 hL3 hK4 zqa_int rfl (by decide) (Or.inl ⟨rfl, rfl⟩) zd_X10_init_0.1.2.1.1 ?_
  obtain ⟨R5, hR5, h⟩ := zlt_e h
  obtain ⟨hn6, h⟩ := zck_e h
  refine rn_putR hR5 (zbne hn6) (Or.inr ⟨_, rfl⟩) (fun _ => ⟨rfl, rfl⟩) zf_X10_9 (zkl hK4 k_a0) zd_X10_init_0.1.2.1.2 ?_
  refine rn_aload_n (q := 0) 0 rfl zd_X10_init_0.1.2.2.1 ?_
  refine rn_bipush (v := 20) zd_X10_init_0.1.2.2.2 rfl ?_
  obtain ⟨a7, ha7, h⟩ := zlt_e h
  obtain ⟨M8, hM8, h⟩ := zlt_e h
  obtain ⟨L9, hL9, h⟩ := zlt_e h
  obtain ⟨K10, hK10, h⟩ := zlt_e h
  refine rn_newaE (at_ := .int) ha7 hM8 hL9 hK10 zqa_int rfl (by decide) (Or.inl ⟨rfl, rfl⟩) zd_X10_init_0.2.1.1.1 ?_
  obtain ⟨R11, hR11, h⟩ := zlt_e h
  obtain ⟨hn12, h⟩ := zck_e h
  refine rn_putR hR11 (zbne hn12) (Or.inr ⟨_, rfl⟩) (fun _ => ⟨rfl, rfl⟩) zf_X10_15 (zkl hK10 (zkl hK4 k_a0)) zd_X10_init_0.2.1.1.2 ?_
  refine rn_aload_n (q := 0) 0 rfl zd_X10_init_0.2.1.2.1 ?_
  refine rn_bipush (v := 10) zd_X10_init_0.2.1.2.2 rfl ?_
  obtain ⟨a13, ha13, h⟩ := zlt_e h
  obtain ⟨M14, hM14, h⟩ := zlt_e h
  obtain ⟨L15, hL15, h⟩ := zlt_e h
  obtain ⟨K16, hK16, h⟩ := zlt_e h
  refine rn_newaE (at_ := .int) ha13 hM14 hL15 hK16 zqa_int rfl (by decide) (Or.inl ⟨rfl, rfl⟩) zd_X10_init_0.2.2.1.1 ?_
  obtain ⟨R17, hR17, h⟩ := zlt_e h
  obtain ⟨hn18, h⟩ := zck_e h
  refine rn_putR hR17 (zbne hn18) (Or.inr ⟨_, rfl⟩) (fun _ => ⟨rfl, rfl⟩) zf_X10_18 (zkl hK16 (zkl hK10 (zkl hK4 k_a0))) zd_X10_init_0.2.2.1.2 ?_
  refine rn_aload_n (q := 0) 0 rfl zd_X10_init_0.2.2.2.1 ?_
  refine rn_bipush (v := 10) zd_X10_init_0.2.2.2.2 rfl ?_
  obtain ⟨a19, ha19, h⟩ := zlt_e h
  obtain ⟨M20, hM20, h⟩ := zlt_e h
  obtain ⟨L21, hL21, h⟩ := zlt_e h
  obtain ⟨K22, hK22, h⟩ := zlt_e h
  refine rn_newaE (at_ := .int) ha19 hM20 hL21 hK22 zqa_int rfl (by decide) (Or.inl ⟨rfl, rfl⟩) zd_X10_init_1.1.1.1 ?_
  obtain ⟨R23, hR23, h⟩ := zlt_e h
  obtain ⟨hn24, h⟩ := zck_e h
  refine rn_putR hR23 (zbne hn24) (Or.inr ⟨_, rfl⟩) (fun _ => ⟨rfl, rfl⟩) zf_X10_21 (zkl hK22 (zkl hK16 (zkl hK10 (zkl hK4 k_a0)))) zd_X10_init_1.1.1.2.1 ?_
  refine rn_aload_n (q := 0) 0 rfl zd_X10_init_1.1.1.2.2 ?_
  refine rn_bipush (v := 10) zd_X10_init_1.1.2.1 rfl ?_
  obtain ⟨a25, ha25, h⟩ := zlt_e h
  obtain ⟨M26, hM26, h⟩ := zlt_e h
  obtain ⟨L27, hL27, h⟩ := zlt_e h
  obtain ⟨K28, hK28, h⟩ := zlt_e h
  refine rn_newaE (at_ := .int) ha25 hM26 hL27 hK28 zqa_int rfl (by decide) (Or.inl ⟨rfl, rfl⟩) zd_X10_init_1.1.2.2.1 ?_
  obtain ⟨R29, hR29, h⟩ := zlt_e h
  obtain ⟨hn30, h⟩ := zck_e h
  refine rn_putR hR29 (zbne hn30) (Or.inr ⟨_, rfl⟩) (fun _ => ⟨rfl, rfl⟩) zf_X10_24 (zkl hK28 (zkl hK22 (zkl hK16 (zkl hK10 (zkl hK4 k_a0))))) zd_X10_init_1.1.2.2.2 ?_
  refine rn_aload_n (q := 0) 0 rfl zd_X10_init_1.2.1.1 ?_
  obtain ⟨a31, ha31, h⟩ := zlt_e h
  obtain ⟨M32, hM32, h⟩ := zlt_e h
  obtain ⟨R33, hR33, h⟩ := zlt_e h
  obtain ⟨K34, hK34, h⟩ := zlt_e h
  refine rn_newE ha31 hM32 hR33 hK34 zc_X6 zq_X10_27 zqi_X6 zqn_X6 zd_X10_init_1.2.1.2.1 ?_
  refine rn_dup zd_X10_init_1.2.1.2.2 rfl ?_
  obtain ⟨K35, R36, M37, L38, h39, h⟩ := zbd4_e h
  refine rn_callI (As := []) (rest := [.ref a31, .ref a0]) zl_X10_29 zm_X6_init ⟨by decide, by decide⟩ rfl rfl (Nat.le_of_ble_eq_true rfl) zd_X10_init_1.2.2.1 (ok_X6_init_g h39) ?_
  obtain ⟨hz40z, hz40, h⟩ := zkk_e h
  obtain ⟨hz41z, hz41, h⟩ := zkk_e h
  obtain ⟨hz42z, hz42, h⟩ := zkk_e h
  obtain ⟨R43, hR43, h⟩ := zlt_e h
  obtain ⟨hn44, h⟩ := zck_e h
  refine rn_putR hR43 (zbne hn44) (Or.inl ⟨_, rfl⟩) (fun _ => ⟨rfl, rfl⟩) zf_X10_30 hz42 zd_X10_init_1.2.2.2.1 ?_
  cases h
  exact rn_vret zd_X10_init_1.2.2.2.2 rfl
def g_X11_init (K : zK) (R : zR) (M : zM) (L : zL) (a0 : Nat) : Option (zK × zR × zM × zL) :=
  zkk K a0 (11, 11) <|
  zlt K.length fun a1 =>
  zlt (zzM M a1) fun M2 =>
  zlt (zzR R a1) fun R3 =>
  zlt (K ++ [(8, 2)]) fun K4 =>
  zbd4 (g_X8_init K4 R3 M2 L a1) fun K5 R6 M7 L8 =>
  zkk K5 a0 (11, 11) <|
  zkk K5 a1 (8, 2) <|
  zkk K5 a0 (11, 11) <|
  zlt (zupR R6 a0 0 a1) fun R13 =>
  zck (!decide (a1 = 0)) <|
  zlt K5.length fun a15 =>
  zlt (zzM M7 a15) fun M16 =>
  zlt (zzR R13 a15) fun R17 =>
  zlt (K5 ++ [(5, 10)]) fun K18 =>
  zbd4 (g_X5_init K18 R17 M16 L8 a15) fun K19 R20 M21 L22 =>
  zkk K19 a0 (11, 11) <|
  zkk K19 a15 (5, 10) <|
  zkk K19 a0 (11, 11) <|
  zlt (zupR R20 a0 1 a15) fun R27 =>
  zck (!decide (a15 = 0)) <|
  zlt K19.length fun a29 =>
  zlt (zzM M21 a29) fun M30 =>
  zlt (zzR R27 a29) fun R31 =>
  zlt (K19 ++ [(6, 8)]) fun K32 =>
  zbd4 (g_X6_init K32 R31 M30 L22 a29) fun K33 R34 M35 L36 =>
  zkk K33 a0 (11, 11) <|
  zkk K33 a29 (6, 8) <|
  zkk K33 a0 (11, 11) <|
  zlt (zupR R34 a0 2 a29) fun R41 =>
  zck (!decide (a29 = 0)) <|
  zlt K33.length fun a43 =>
  zlt (zzM M35 a43) fun M44 =>
  zlt (zzR R41 a43) fun R45 =>
  zlt (K33 ++ [(2, 5)]) fun K46 =>
  zbd4 (g_X2_init K46 R45 M44 L36 a43) fun K47 R48 M49 L50 =>
  zkk K47 a0 (11, 11) <|
  zkk K47 a43 (2, 5) <|
  zkk K47 a0 (11, 11) <|
  zlt (zupR R48 a0 3 a43) fun R55 =>
  zck (!decide (a43 = 0)) <|
  zlt K47.length fun a57 =>
  zlt (zzM M49 a57) fun M58 =>
  zlt (zzR R55 a57) fun R59 =>
  zlt (K47 ++ [(1, 2)]) fun K60 =>
  zbd4 (g_X1_init K60 R59 M58 L50 a57) fun K61 R62 M63 L64 =>
  zkk K61 a0 (11, 11) <|
  zkk K61 a57 (1, 2) <|
  zkk K61 a0 (11, 11) <|
  zlt (zupR R62 a0 4 a57) fun R69 =>
  zck (!decide (a57 = 0)) <|
  zlt K61.length fun a71 =>
  zlt (zzM M63 a71) fun M72 =>
  zlt (zzR R69 a71) fun R73 =>
  zlt (K61 ++ [(0, 4)]) fun K74 =>
  zbd4 (g_X0_init K74 R73 M72 L64 a71) fun K75 R76 M77 L78 =>
  zkk K75 a0 (11, 11) <|
  zkk K75 a71 (0, 4) <|
  zkk K75 a0 (11, 11) <|
  zlt (zupR R76 a0 5 a71) fun R83 =>
  zck (!decide (a71 = 0)) <|
  zlt K75.length fun a85 =>
  zlt (zzM M77 a85) fun M86 =>
  zlt (zzR R83 a85) fun R87 =>
  zlt (K75 ++ [(4, 2)]) fun K88 =>
  zbd4 (g_X4_init K88 R87 M86 L78 a85) fun K89 R90 M91 L92 =>
  zkk K89 a0 (11, 11) <|
  zkk K89 a85 (4, 2) <|
  zkk K89 a0 (11, 11) <|
  zlt (zupR R90 a0 6 a85) fun R97 =>
  zck (!decide (a85 = 0)) <|
  zlt K89.length fun a99 =>
  zlt (zzM M91 a99) fun M100 =>
  zlt (zzR R97 a99) fun R101 =>
  zlt (K89 ++ [(10, 11)]) fun K102 =>
  zbd4 (g_X10_init K102 R101 M100 L92 a99) fun K103 R104 M105 L106 =>
  zkk K103 a0 (11, 11) <|
  zkk K103 a99 (10, 11) <|
  zkk K103 a0 (11, 11) <|
  zlt (zupR R104 a0 7 a99) fun R111 =>
  zck (!decide (a99 = 0)) <|
  zlt K103.length fun a113 =>
  zlt (zzM M105 a113) fun M114 =>
  zlt (zzR R111 a113) fun R115 =>
  zlt (K103 ++ [(7, 11)]) fun K116 =>
  zbd4 (g_X7_init K116 R115 M114 L106 a113) fun K117 R118 M119 L120 =>
  zkk K117 a0 (11, 11) <|
  zkk K117 a113 (7, 11) <|
  zkk K117 a0 (11, 11) <|
  zlt (zupR R118 a0 8 a113) fun R125 =>
  zck (!decide (a113 = 0)) <|
  zlt K117.length fun a127 =>
  zlt (zzM M119 a127) fun M128 =>
  zlt (zzR R125 a127) fun R129 =>
  zlt (K117 ++ [(7, 11)]) fun K130 =>
  zbd4 (g_X7_init K130 R129 M128 L120 a127) fun K131 R132 M133 L134 =>
  zkk K131 a0 (11, 11) <|
  zkk K131 a127 (7, 11) <|
  zkk K131 a0 (11, 11) <|
  zlt (zupR R132 a0 9 a127) fun R139 =>
  zck (!decide (a127 = 0)) <|
  zlt (zup M133 a0 10 (-1 : Int32)) fun M141 =>
  zkk K131 (R139 a0 2) (6, 8) <|
  zkk K131 (R139 a0 8) (7, 11) <|
  zbd2 (g_X6_begin K131 R139 M141 L134 (R139 a0 2) (R139 a0 8)) fun M144 L145 =>
  some (K131, R139, M144, L145)
set_option maxRecDepth 4000 in
theorem ok_X11_init_g {G : zG} {K : zK} {R : zR} {M : zM} {L : zL} {a0 : Nat} {K' : zK} {R' : zR} {M' : zM} {L' : zL} (h : g_X11_init K R M L a0 = some (K', R', M', L')) : Rm G mt_X11_init [.ref a0] (M, L, R, K) none (M', L', R', K') := by
  refine rm_rn rfl rfl (Nat.le_of_ble_eq_true rfl) ?_
  show Rn G mt_X11_init 0 [(0, .ref a0)] [] (M, L, R, K) none (M', L', R', K')
  unfold g_X11_init at h
  obtain ⟨k_a0z, k_a0, h⟩ := zkk_e h
  refine rn_aload_n (q := 0) 0 rfl zd_X11_init_0.1.1.1.1 ?_
  refine rn_objInit zb_X11_1 zoi zoc ⟨by decide, by decide⟩ (Nat.le_of_ble_eq_true rfl) zd_X11_init_0.1.1.1.2 ?_
  refine rn_aload_n (q := 0) 0 rfl zd_X11_init_0.1.1.2.1 ?_
  obtain ⟨a1, ha1, h⟩ := zlt_e h
  obtain ⟨M2, hM2, h⟩ := zlt_e h
  obtain ⟨R3, hR3, h⟩ := zlt_e h
  obtain ⟨K4, hK4, h⟩ := zlt_e h
  refine rn_newE ha1 hM2 hR3 hK4 zc_X8 zq_X11_7 zqi_X8 zqn_X8 zd_X11_init_0.1.1.2.2 ?_
  refine rn_dup zd_X11_init_0.1.2.1.1 rfl ?_
  obtain ⟨K5, R6, M7, L8, h9, h⟩ := zbd4_e h
  refine rn_callI (As := []) (rest := [.ref a1, .ref a0]) zl_X11_9 zm_X8_init ⟨by decide, by decide⟩ rfl rfl (Nat.le_of_ble_eq_true rfl) zd_X11_init_0.1.2.1.2 (ok_X8_init_g h9) ?_
  obtain ⟨hz10z, hz10, h⟩ := zkk_e h
  obtain ⟨hz11z, hz11, h⟩ := zkk_e h
  obtain ⟨hz12z, hz12, h⟩ := zkk_e h
  obtain ⟨R13, hR13, h⟩ := zlt_e h
  obtain ⟨hn14, h⟩ := zck_e h
  refine rn_putR hR13 (zbne hn14) (Or.inl ⟨_, rfl⟩) (fun _ => ⟨rfl, rfl⟩) zf_X11_10 hz12 zd_X11_init_0.1.2.2.1 ?_
  refine rn_aload_n (q := 0) 0 rfl zd_X11_init_0.1.2.2.2 ?_
  obtain ⟨a15, ha15, h⟩ := zlt_e h
  obtain ⟨M16, hM16, h⟩ := zlt_e h
  obtain ⟨R17, hR17, h⟩ := zlt_e h
  obtain ⟨K18, hK18, h⟩ := zlt_e h
  refine rn_newE ha15 hM16 hR17 hK18 zc_X5 zq_X11_16 zqi_X5 zqn_X5 zd_X11_init_0.2.1.1.1 ?_
  refine rn_dup zd_X11_init_0.2.1.1.2 rfl ?_
  obtain ⟨K19, R20, M21, L22, h23, h⟩ := zbd4_e h
  refine rn_callI (As := []) (rest := [.ref a15, .ref a0]) zl_X11_18 zm_X5_init ⟨by decide, by decide⟩ rfl rfl (Nat.le_of_ble_eq_true rfl) zd_X11_init_0.2.1.2.1 (ok_X5_init_g h23) ?_
  obtain ⟨hz24z, hz24, h⟩ := zkk_e h
  obtain ⟨hz25z, hz25, h⟩ := zkk_e h
  obtain ⟨hz26z, hz26, h⟩ := zkk_e h
  obtain ⟨R27, hR27, h⟩ := zlt_e h
  obtain ⟨hn28, h⟩ := zck_e h
  refine rn_putR hR27 (zbne hn28) (Or.inl ⟨_, rfl⟩) (fun _ => ⟨rfl, rfl⟩) zf_X11_19 hz26 zd_X11_init_0.2.1.2.2 ?_
  refine rn_aload_n (q := 0) 0 rfl zd_X11_init_0.2.2.1.1 ?_
  obtain ⟨a29, ha29, h⟩ := zlt_e h
  obtain ⟨M30, hM30, h⟩ := zlt_e h
  obtain ⟨R31, hR31, h⟩ := zlt_e h
  obtain ⟨K32, hK32, h⟩ := zlt_e h
  refine rn_newE ha29 hM30 hR31 hK32 zc_X6 zq_X11_23 zqi_X6 zqn_X6 zd_X11_init_0.2.2.1.2 ?_
  refine rn_dup zd_X11_init_0.2.2.2.1 rfl ?_
  obtain ⟨K33, R34, M35, L36, h37, h⟩ := zbd4_e h
  refine rn_callI (As := []) (rest := [.ref a29, .ref a0]) zl_X11_25 zm_X6_init ⟨by decide, by decide⟩ rfl rfl (Nat.le_of_ble_eq_true rfl) zd_X11_init_0.2.2.2.2 (ok_X6_init_g h37) ?_
  obtain ⟨hz38z, hz38, h⟩ := zkk_e h
  obtain ⟨hz39z, hz39, h⟩ := zkk_e h
  obtain ⟨hz40z, hz40, h⟩ := zkk_e h
  obtain ⟨R41, hR41, h⟩ := zlt_e h
  obtain ⟨hn42, h⟩ := zck_e h
  refine rn_putR hR41 (zbne hn42) (Or.inl ⟨_, rfl⟩) (fun _ => ⟨rfl, rfl⟩) zf_X11_26 hz40 zd_X11_init_1.1.1.1.1 ?_
  refine rn_aload_n (q := 0) 0 rfl zd_X11_init_1.1.1.1.2 ?_
  obtain ⟨a43, ha43, h⟩ := zlt_e h
  obtain ⟨M44, hM44, h⟩ := zlt_e h
  obtain ⟨R45, hR45, h⟩ := zlt_e h
  obtain ⟨K46, hK46, h⟩ := zlt_e h
  refine rn_newE ha43 hM44 hR45 hK46 zc_X2 zq_X11_30 zqi_X2 zqn_X2 zd_X11_init_1.1.1.2.1 ?_
  refine rn_dup zd_X11_init_1.1.1.2.2 rfl ?_
  obtain ⟨K47, R48, M49, L50, h51, h⟩ := zbd4_e h
  refine rn_callI (As := []) (rest := [.ref a43, .ref a0]) zl_X11_32 zm_X2_init ⟨by decide, by decide⟩ rfl rfl (Nat.le_of_ble_eq_true rfl) zd_X11_init_1.1.2.1.1 (ok_X2_init_g h51) ?_
  obtain ⟨hz52z, hz52, h⟩ := zkk_e h
  obtain ⟨hz53z, hz53, h⟩ := zkk_e h
  obtain ⟨hz54z, hz54, h⟩ := zkk_e h
  obtain ⟨R55, hR55, h⟩ := zlt_e h
  obtain ⟨hn56, h⟩ := zck_e h
  refine rn_putR hR55 (zbne hn56) (Or.inl ⟨_, rfl⟩) (fun _ => ⟨rfl, rfl⟩) zf_X11_33 hz54 zd_X11_init_1.1.2.1.2 ?_
  refine rn_aload_n (q := 0) 0 rfl zd_X11_init_1.1.2.2.1 ?_
  obtain ⟨a57, ha57, h⟩ := zlt_e h
  obtain ⟨M58, hM58, h⟩ := zlt_e h
  obtain ⟨R59, hR59, h⟩ := zlt_e h
  obtain ⟨K60, hK60, h⟩ := zlt_e h
  refine rn_newE ha57 hM58 hR59 hK60 zc_X1 zq_X11_37 zqi_X1 zqn_X1 zd_X11_init_1.1.2.2.2 ?_
  refine rn_dup zd_X11_init_1.2.1.1.1 rfl ?_
  obtain ⟨K61, R62, M63, L64, h65, h⟩ := zbd4_e h
  refine rn_callI (As := []) (rest := [.ref a57, .ref a0]) zl_X11_39 zm_X1_init ⟨by decide, by decide⟩ rfl rfl (Nat.le_of_ble_eq_true rfl) zd_X11_init_1.2.1.1.2 (ok_X1_init_g h65) ?_
  obtain ⟨hz66z, hz66, h⟩ := zkk_e h
  obtain ⟨hz67z, hz67, h⟩ := zkk_e h
  obtain ⟨hz68z, hz68, h⟩ := zkk_e h
  obtain ⟨R69, hR69, h⟩ := zlt_e h
  obtain ⟨hn70, h⟩ := zck_e h
  refine rn_putR hR69 (zbne hn70) (Or.inl ⟨_, rfl⟩) (fun _ => ⟨rfl, rfl⟩) zf_X11_40 hz68 zd_X11_init_1.2.1.2.1 ?_
  refine rn_aload_n (q := 0) 0 rfl zd_X11_init_1.2.1.2.2 ?_
  obtain ⟨a71, ha71, h⟩ := zlt_e h
  obtain ⟨M72, hM72, h⟩ := zlt_e h
  obtain ⟨R73, hR73, h⟩ := zlt_e h
  obtain ⟨K74, hK74, h⟩ := zlt_e h
  refine rn_newE ha71 hM72 hR73 hK74 zc_X0 zq_X11_44 zqi_X0 zqn_X0 zd_X11_init_1.2.2.1.1 ?_
  refine rn_dup zd_X11_init_1.2.2.1.2 rfl ?_
  obtain ⟨K75, R76, M77, L78, h79, h⟩ := zbd4_e h
  refine rn_callI (As := []) (rest := [.ref a71, .ref a0]) zl_X11_46 zm_X0_init ⟨by decide, by decide⟩ rfl rfl (Nat.le_of_ble_eq_true rfl) zd_X11_init_1.2.2.2.1 (ok_X0_init_g h79) ?_
  obtain ⟨hz80z, hz80, h⟩ := zkk_e h
  obtain ⟨hz81z, hz81, h⟩ := zkk_e h
  obtain ⟨hz82z, hz82, h⟩ := zkk_e h
  obtain ⟨R83, hR83, h⟩ := zlt_e h
  obtain ⟨hn84, h⟩ := zck_e h
  refine rn_putR hR83 (zbne hn84) (Or.inl ⟨_, rfl⟩) (fun _ => ⟨rfl, rfl⟩) zf_X11_47 hz82 zd_X11_init_1.2.2.2.2 ?_
  refine rn_aload_n (q := 0) 0 rfl zd_X11_init_2.1.1.1.1 ?_
  obtain ⟨a85, ha85, h⟩ := zlt_e h
  obtain ⟨M86, hM86, h⟩ := zlt_e h
  obtain ⟨R87, hR87, h⟩ := zlt_e h
  obtain ⟨K88, hK88, h⟩ := zlt_e h
  refine rn_newE ha85 hM86 hR87 hK88 zc_X4 zq_X11_51 zqi_X4 zqn_X4 zd_X11_init_2.1.1.1.2 ?_
  refine rn_dup zd_X11_init_2.1.1.2.1 rfl ?_
  obtain ⟨K89, R90, M91, L92, h93, h⟩ := zbd4_e h
  refine rn_callI (As := []) (rest := [.ref a85, .ref a0]) zl_X11_53 zm_X4_init ⟨by decide, by decide⟩ rfl rfl (Nat.le_of_ble_eq_true rfl) zd_X11_init_2.1.1.2.2 (ok_X4_init_g h93) ?_
  obtain ⟨hz94z, hz94, h⟩ := zkk_e h
  obtain ⟨hz95z, hz95, h⟩ := zkk_e h
  obtain ⟨hz96z, hz96, h⟩ := zkk_e h
  obtain ⟨R97, hR97, h⟩ := zlt_e h
  obtain ⟨hn98, h⟩ := zck_e h
  refine rn_putR hR97 (zbne hn98) (Or.inl ⟨_, rfl⟩) (fun _ => ⟨rfl, rfl⟩) zf_X11_54 hz96 zd_X11_init_2.1.2.1.1 ?_
  refine rn_aload_n (q := 0) 0 rfl zd_X11_init_2.1.2.1.2 ?_
  obtain ⟨a99, ha99, h⟩ := zlt_e h
  obtain ⟨M100, hM100, h⟩ := zlt_e h
  obtain ⟨R101, hR101, h⟩ := zlt_e h
  obtain ⟨K102, hK102, h⟩ := zlt_e h
  refine rn_newE ha99 hM100 hR101 hK102 zc_X10 zq_X11_58 zqi_X10 zqn_X10 zd_X11_init_2.1.2.2.1 ?_
  refine rn_dup zd_X11_init_2.1.2.2.2 rfl ?_
  obtain ⟨K103, R104, M105, L106, h107, h⟩ := zbd4_e h
  refine rn_callI (As := []) (rest := [.ref a99, .ref a0]) zl_X11_60 zm_X10_init ⟨by decide, by decide⟩ rfl rfl (Nat.le_of_ble_eq_true rfl) zd_X11_init_2.2.1.1.1 (ok_X10_init_g h107) ?_
  obtain ⟨hz108z, hz108, h⟩ := zkk_e h
  obtain ⟨hz109z, hz109, h⟩ := zkk_e h
  obtain ⟨hz110z, hz110, h⟩ := zkk_e h
  obtain ⟨R111, hR111, h⟩ := zlt_e h
  obtain ⟨hn112, h⟩ := zck_e h
  refine rn_putR hR111 (zbne hn112) (Or.inl ⟨_, rfl⟩) (fun _ => ⟨rfl, rfl⟩) zf_X11_61 hz110 zd_X11_init_2.2.1.1.2 ?_
  refine rn_aload_n (q := 0) 0 rfl zd_X11_init_2.2.1.2.1 ?_
  obtain ⟨a113, ha113, h⟩ := zlt_e h
  obtain ⟨M114, hM114, h⟩ := zlt_e h
  obtain ⟨R115, hR115, h⟩ := zlt_e h
  obtain ⟨K116, hK116, h⟩ := zlt_e h
  refine rn_newE ha113 hM114 hR115 hK116 zc_X7 zq_X11_65 zqi_X7 zqn_X7 zd_X11_init_2.2.1.2.2 ?_
  refine rn_dup zd_X11_init_2.2.2.1.1 rfl ?_
  obtain ⟨K117, R118, M119, L120, h121, h⟩ := zbd4_e h
  refine rn_callI (As := []) (rest := [.ref a113, .ref a0]) zl_X11_67 zm_X7_init ⟨by decide, by decide⟩ rfl rfl (Nat.le_of_ble_eq_true rfl) zd_X11_init_2.2.2.1.2 (ok_X7_init_g h121) ?_
  obtain ⟨hz122z, hz122, h⟩ := zkk_e h
  obtain ⟨hz123z, hz123, h⟩ := zkk_e h
  obtain ⟨hz124z, hz124, h⟩ := zkk_e h
  obtain ⟨R125, hR125, h⟩ := zlt_e h
  obtain ⟨hn126, h⟩ := zck_e h
  refine rn_putR hR125 (zbne hn126) (Or.inl ⟨_, rfl⟩) (fun q => by cases q) zf_X11_68 hz124 zd_X11_init_2.2.2.2.1 ?_
  refine rn_aload_n (q := 0) 0 rfl zd_X11_init_2.2.2.2.2 ?_
  obtain ⟨a127, ha127, h⟩ := zlt_e h
  obtain ⟨M128, hM128, h⟩ := zlt_e h
  obtain ⟨R129, hR129, h⟩ := zlt_e h
  obtain ⟨K130, hK130, h⟩ := zlt_e h
  refine rn_newE ha127 hM128 hR129 hK130 zc_X7 zq_X11_65 zqi_X7 zqn_X7 zd_X11_init_3.1.1.1 ?_
  refine rn_dup zd_X11_init_3.1.1.2.1 rfl ?_
  obtain ⟨K131, R132, M133, L134, h135, h⟩ := zbd4_e h
  refine rn_callI (As := []) (rest := [.ref a127, .ref a0]) zl_X11_67 zm_X7_init ⟨by decide, by decide⟩ rfl rfl (Nat.le_of_ble_eq_true rfl) zd_X11_init_3.1.1.2.2 (ok_X7_init_g h135) ?_
  obtain ⟨hz136z, hz136, h⟩ := zkk_e h
  obtain ⟨hz137z, hz137, h⟩ := zkk_e h
  obtain ⟨hz138z, hz138, h⟩ := zkk_e h
  obtain ⟨R139, hR139, h⟩ := zlt_e h
  obtain ⟨hn140, h⟩ := zck_e h
  refine rn_putR hR139 (zbne hn140) (Or.inl ⟨_, rfl⟩) (fun q => by cases q) zf_X11_72 hz138 zd_X11_init_3.1.2.1 ?_
  refine rn_aload_n (q := 0) 0 rfl zd_X11_init_3.1.2.2.1 ?_
  refine rn_iconst (v := -1) zd_X11_init_3.1.2.2.2 rfl ?_
  obtain ⟨M141, hM141, h⟩ := zlt_e h
  refine rn_putI hM141 zf_X11_75 hz136 zd_X11_init_3.2.1.1 ?_
  refine rn_aload_n (q := 0) 0 rfl zd_X11_init_3.2.1.2.1 ?_
  obtain ⟨hz142z, hz142, h⟩ := zkk_e h
  refine rn_getR zf_X11_26 (Or.inl ⟨_, rfl⟩) hz136 hz142z zd_X11_init_3.2.1.2.2 ?_
  refine rn_aload_n (q := 0) 0 rfl zd_X11_init_3.2.2.1.1 ?_
  obtain ⟨hz143z, hz143, h⟩ := zkk_e h
  refine rn_getR zf_X11_68 (Or.inl ⟨_, rfl⟩) hz136 hz143z zd_X11_init_3.2.2.1.2 ?_
  obtain ⟨M144, L145, h146, h⟩ := zbd2_e h
  refine rn_callVv (As := [.ref (R139 a0 8)]) (rest := []) zl_X11_79 zm_X6_begin ⟨by decide, by decide⟩ (ci := 6) rfl rfl (by decide) hz142 rfl rfl (Nat.le_of_ble_eq_true rfl) zd_X11_init_3.2.2.2.1 (ok_X6_begin_g h146) ?_
  cases h
  exact rn_vret zd_X11_init_3.2.2.2.2 rfl
def g_X12_appends (K : zK) (y0 : Int64) (x2 : Int32) : Option (Int64) :=
  if x2 = 0 then (
    some y0
  ) else (
    some (((27 : Int64) * y0) + ((x2 - (97 : Int32)) + (1 : Int32)).toInt64)
  )
set_option maxRecDepth 4000 in
theorem ok_X12_appends_g {G : zG} {K : zK} {R : zR} {M : zM} {L : zL} {y0 : Int64} {x2 : Int32} {r' : Int64} (h : g_X12_appends K y0 x2 = some r') : Rm G mt_X12_appends [.long y0, .int x2] (M, L, R, K) (some (.long r')) (M, L, R, K) := by
  refine rm_rn rfl rfl (Nat.le_of_ble_eq_true rfl) ?_
  show Rn G mt_X12_appends 0 [(0, .long y0), (2, .int x2)] [] (M, L, R, K) (some (.long r')) (M, L, R, K)
  unfold g_X12_appends at h
  refine rn_iload_n (q := 2) 1 rfl zd_X12_appends_0.1.1.1 ?_
  rcases zif_e h with ⟨hc1, h⟩ | ⟨hc1, h⟩
  · refine rn_if_ne_f (tgt := 8) hc1 zd_X12_appends_0.1.1.2.1 rfl ?_
    refine rn_lload_n (q := 0) 0 rfl zd_X12_appends_0.1.1.2.2 ?_
    refine rn_goto (tgt := 21) zd_X12_appends_0.1.2.1.1 rfl ?_
    cases h
    exact rn_lret zd_X12_appends_0.2.2.2.2 rfl
  · refine rn_if_ne_t (tgt := 8) hc1 zd_X12_appends_0.1.1.2.1 rfl ?_
    refine rn_ldc2 (v := 27) zk_X12_154 zd_X12_appends_0.1.2.1.2 ?_
    refine rn_lload_n (q := 0) 0 rfl zd_X12_appends_0.1.2.2.1 ?_
    refine rn_lmul zd_X12_appends_0.1.2.2.2 ?_
    refine rn_iload_n (q := 2) 1 rfl zd_X12_appends_0.2.1.1.1 ?_
    refine rn_bipush (v := 97) zd_X12_appends_0.2.1.1.2 rfl ?_
    refine rn_isub zd_X12_appends_0.2.1.2.1 ?_
    refine rn_iconst (v := 1) zd_X12_appends_0.2.1.2.2 rfl ?_
    refine rn_iadd zd_X12_appends_0.2.2.1.1 ?_
    refine rn_i2l zd_X12_appends_0.2.2.1.2 ?_
    refine rn_ladd zd_X12_appends_0.2.2.2.1 ?_
    cases h
    exact rn_lret zd_X12_appends_0.2.2.2.2 rfl
def g_X12_word (K : zK) (x0 : Int32) (x1 : Int32) (x2 : Int32) (x3 : Int32) (x4 : Int32) (x5 : Int32) (x6 : Int32) : Option (Int64) :=
  zbd (g_X12_appends K (0 : Int64) x0) fun r1 =>
  zbd (g_X12_appends K r1 x1) fun r3 =>
  zbd (g_X12_appends K r3 x2) fun r5 =>
  zbd (g_X12_appends K r5 x3) fun r7 =>
  zbd (g_X12_appends K r7 x4) fun r9 =>
  zbd (g_X12_appends K r9 x5) fun r11 =>
  zbd (g_X12_appends K r11 x6) fun r13 =>
  some r13
set_option maxRecDepth 4000 in
theorem ok_X12_word_g {G : zG} {K : zK} {R : zR} {M : zM} {L : zL} {x0 : Int32} {x1 : Int32} {x2 : Int32} {x3 : Int32} {x4 : Int32} {x5 : Int32} {x6 : Int32} {r' : Int64} (h : g_X12_word K x0 x1 x2 x3 x4 x5 x6 = some r') : Rm G mt_X12_word [.int x0, .int x1, .int x2, .int x3, .int x4, .int x5, .int x6] (M, L, R, K) (some (.long r')) (M, L, R, K) := by
  refine rm_rn rfl rfl (Nat.le_of_ble_eq_true rfl) ?_
  show Rn G mt_X12_word 0 [(0, .int x0), (1, .int x1), (2, .int x2), (3, .int x3), (4, .int x4), (5, .int x5), (6, .int x6)] [] (M, L, R, K) (some (.long r')) (M, L, R, K)
  unfold g_X12_word at h
  refine rn_lconst (v := 0) zd_X12_word_0.1.1.1.1 rfl ?_
  refine rn_iload_n (q := 0) 0 rfl zd_X12_word_0.1.1.1.2 ?_
  obtain ⟨r1, h2, h⟩ := zbd_e h
  refine rn_callSl (As := [.long (0 : Int64), .int x0]) (rest := []) zl_X12_156 zm_X12_appends ⟨by decide, by decide⟩ rfl rfl (Nat.le_of_ble_eq_true rfl) zd_X12_word_0.1.1.2.1 (ok_X12_appends_g h2) ?_
  refine rn_iload_n (q := 1) 1 rfl zd_X12_word_0.1.1.2.2 ?_
  obtain ⟨r3, h4, h⟩ := zbd_e h
  refine rn_callSl (As := [.long r1, .int x1]) (rest := []) zl_X12_156 zm_X12_appends ⟨by decide, by decide⟩ rfl rfl (Nat.le_of_ble_eq_true rfl) zd_X12_word_0.1.2.1.1 (ok_X12_appends_g h4) ?_
  refine rn_iload_n (q := 2) 2 rfl zd_X12_word_0.1.2.1.2 ?_
  obtain ⟨r5, h6, h⟩ := zbd_e h
  refine rn_callSl (As := [.long r3, .int x2]) (rest := []) zl_X12_156 zm_X12_appends ⟨by decide, by decide⟩ rfl rfl (Nat.le_of_ble_eq_true rfl) zd_X12_word_0.1.2.2.1 (ok_X12_appends_g h6) ?_
  refine rn_iload_n (q := 3) 3 rfl zd_X12_word_0.1.2.2.2 ?_
  obtain ⟨r7, h8, h⟩ := zbd_e h
  refine rn_callSl (As := [.long r5, .int x3]) (rest := []) zl_X12_156 zm_X12_appends ⟨by decide, by decide⟩ rfl rfl (Nat.le_of_ble_eq_true rfl) zd_X12_word_0.2.1.1.1 (ok_X12_appends_g h8) ?_
  refine rn_iload 4 rfl zd_X12_word_0.2.1.1.2 ?_
  obtain ⟨r9, h10, h⟩ := zbd_e h
  refine rn_callSl (As := [.long r7, .int x4]) (rest := []) zl_X12_156 zm_X12_appends ⟨by decide, by decide⟩ rfl rfl (Nat.le_of_ble_eq_true rfl) zd_X12_word_0.2.1.2.1 (ok_X12_appends_g h10) ?_
  refine rn_iload 5 rfl zd_X12_word_0.2.1.2.2 ?_
  obtain ⟨r11, h12, h⟩ := zbd_e h
  refine rn_callSl (As := [.long r9, .int x5]) (rest := []) zl_X12_156 zm_X12_appends ⟨by decide, by decide⟩ rfl rfl (Nat.le_of_ble_eq_true rfl) zd_X12_word_0.2.2.1.1 (ok_X12_appends_g h12) ?_
  refine rn_iload 6 rfl zd_X12_word_0.2.2.1.2 ?_
  obtain ⟨r13, h14, h⟩ := zbd_e h
  refine rn_callSl (As := [.long r11, .int x6]) (rest := []) zl_X12_156 zm_X12_appends ⟨by decide, by decide⟩ rfl rfl (Nat.le_of_ble_eq_true rfl) zd_X12_word_0.2.2.2.1 (ok_X12_appends_g h14) ?_
  cases h
  exact rn_lret zd_X12_word_0.2.2.2.2 rfl
set_option maxRecDepth 20000 in
def g_X12_init (K : zK) (R : zR) (M : zM) (L : zL) (a0 : Nat) : Option (zK × zR × zM × zL) :=
  zkk K a0 (12, 61) <|
  zlt K.length fun a1 =>
  zlt (zzM M a1) fun M2 =>
  zlt (zzL L a1) fun L3 =>
  zlt (K ++ [(21, 2000)]) fun K4 =>
  zlt (zupR R a0 1 a1) fun R5 =>
  zck (!decide (a1 = 0)) <|
  zlt K4.length fun a7 =>
  zlt (zzM M2 a7) fun M8 =>
  zlt (zzL L3 a7) fun L9 =>
  zlt (K4 ++ [(21, 2000)]) fun K10 =>
  zlt (zupR R5 a0 3 a7) fun R11 =>
  zck (!decide (a7 = 0)) <|
  zlt K10.length fun a13 =>
  zlt (zzM M8 a13) fun M14 =>
  zlt (zzL L9 a13) fun L15 =>
  zlt (K10 ++ [(20, 403)]) fun K16 =>
  zlt (zupR R11 a0 5 a13) fun R17 =>
  zck (!decide (a13 = 0)) <|
  zlt K16.length fun a19 =>
  zlt (zzM M14 a19) fun M20 =>
  zlt (zzL L15 a19) fun L21 =>
  zlt (K16 ++ [(20, 403)]) fun K22 =>
  zlt (zupR R17 a0 6 a19) fun R23 =>
  zck (!decide (a19 = 0)) <|
  zlt K22.length fun a25 =>
  zlt (zzM M20 a25) fun M26 =>
  zlt (zzL L21 a25) fun L27 =>
  zlt (K22 ++ [(20, 403)]) fun K28 =>
  zlt (zupR R23 a0 7 a25) fun R29 =>
  zck (!decide (a25 = 0)) <|
  zlt K28.length fun a31 =>
  zlt (zzM M26 a31) fun M32 =>
  zlt (zzL L27 a31) fun L33 =>
  zlt (K28 ++ [(23, 403)]) fun K34 =>
  zlt (zupR R29 a0 8 a31) fun R35 =>
  zck (!decide (a31 = 0)) <|
  zlt K34.length fun a37 =>
  zlt (zzM M32 a37) fun M38 =>
  zlt (zzL L33 a37) fun L39 =>
  zlt (K34 ++ [(23, 20)]) fun K40 =>
  zlt (zupR R35 a0 9 a37) fun R41 =>
  zck (!decide (a37 = 0)) <|
  zlt (zup M38 a0 17 (-1 : Int32)) fun M43 =>
  zlt K40.length fun a44 =>
  zlt (zzM M43 a44) fun M45 =>
  zlt (zzL L39 a44) fun L46 =>
  zlt (K40 ++ [(23, 10)]) fun K47 =>
  zlt (zupR R41 a0 21 a44) fun R48 =>
  zck (!decide (a44 = 0)) <|
  zlt K47.length fun a50 =>
  zlt (zzM M45 a50) fun M51 =>
  zlt (zzL L46 a50) fun L52 =>
  zlt (K47 ++ [(20, 2)]) fun K53 =>
  zlt (zupR R48 a0 22 a50) fun R54 =>
  zck (!decide (a50 = 0)) <|
  zlt K53.length fun a56 =>
  zlt (zzM M51 a56) fun M57 =>
  zlt (zzL L52 a56) fun L58 =>
  zlt (K53 ++ [(20, 20)]) fun K59 =>
  zlt (zupR R54 a0 23 a56) fun R60 =>
  zck (!decide (a56 = 0)) <|
  zlt K59.length fun a62 =>
  zlt (zzM M57 a62) fun M63 =>
  zlt (zzL L58 a62) fun L64 =>
  zlt (K59 ++ [(22, 2)]) fun K65 =>
  zlt (zupR R60 a0 24 a62) fun R66 =>
  zck (!decide (a62 = 0)) <|
  zlt K65.length fun a68 =>
  zlt (zzM M63 a68) fun M69 =>
  zlt (zzL L64 a68) fun L70 =>
  zlt (K65 ++ [(22, 2)]) fun K71 =>
  zlt (zupR R66 a0 25 a68) fun R72 =>
  zck (!decide (a68 = 0)) <|
  zlt K71.length fun a74 =>
  zlt (zzM M69 a74) fun M75 =>
  zlt (zzL L70 a74) fun L76 =>
  zlt (K71 ++ [(20, 2)]) fun K77 =>
  zlt (zupR R72 a0 26 a74) fun R78 =>
  zck (!decide (a74 = 0)) <|
  zlt K77.length fun a80 =>
  zlt (zzM M75 a80) fun M81 =>
  zlt (zzL L76 a80) fun L82 =>
  zlt (K77 ++ [(20, 2)]) fun K83 =>
  zlt (zupR R78 a0 27 a80) fun R84 =>
  zck (!decide (a80 = 0)) <|
  zlt K83.length fun a86 =>
  zlt (zzM M81 a86) fun M87 =>
  zlt (zzL L82 a86) fun L88 =>
  zlt (K83 ++ [(20, 2)]) fun K89 =>
  zlt (zupR R84 a0 28 a86) fun R90 =>
  zck (!decide (a86 = 0)) <|
  zlt K89.length fun a92 =>
  zlt (zzM M87 a92) fun M93 =>
  zlt (zzL L88 a92) fun L94 =>
  zlt (K89 ++ [(20, 4)]) fun K95 =>
  zlt (zupR R90 a0 29 a92) fun R96 =>
  zck (!decide (a92 = 0)) <|
  zlt K95.length fun a98 =>
  zlt (zzM M93 a98) fun M99 =>
  zlt (zzL L94 a98) fun L100 =>
  zlt (K95 ++ [(20, 4)]) fun K101 =>
  zlt (zupR R96 a0 30 a98) fun R102 =>
  zck (!decide (a98 = 0)) <|
  zlt K101.length fun a104 =>
  zlt (zzM M99 a104) fun M105 =>
  zlt (zzL L100 a104) fun L106 =>
  zlt (K101 ++ [(22, 260)]) fun K107 =>
  zlt (zupR R102 a0 32 a104) fun R108 =>
  zck (!decide (a104 = 0)) <|
  zlt K107.length fun a110 =>
  zlt (zzM M105 a110) fun M111 =>
  zlt (zzL L106 a110) fun L112 =>
  zlt (K107 ++ [(20, 260)]) fun K113 =>
  zlt (zupR R108 a0 33 a110) fun R114 =>
  zck (!decide (a110 = 0)) <|
  zlt K113.length fun a116 =>
  zlt (zzM M111 a116) fun M117 =>
  zlt (zzL L112 a116) fun L118 =>
  zlt (K113 ++ [(20, 260)]) fun K119 =>
  zlt (zupR R114 a0 34 a116) fun R120 =>
  zck (!decide (a116 = 0)) <|
  zlt K119.length fun a122 =>
  zlt (zzM M117 a122) fun M123 =>
  zlt (zzL L118 a122) fun L124 =>
  zlt (K119 ++ [(20, 260)]) fun K125 =>
  zlt (zupR R120 a0 35 a122) fun R126 =>
  zck (!decide (a122 = 0)) <|
  zlt K125.length fun a128 =>
  zlt (zzM M123 a128) fun M129 =>
  zlt (zzL L124 a128) fun L130 =>
  zlt (K125 ++ [(20, 260)]) fun K131 =>
  zlt (zupR R126 a0 36 a128) fun R132 =>
  zck (!decide (a128 = 0)) <|
  zlt K131.length fun a134 =>
  zlt (zzM M129 a134) fun M135 =>
  zlt (zzL L130 a134) fun L136 =>
  zlt (K131 ++ [(20, 840)]) fun K137 =>
  zlt (zupR R132 a0 38 a134) fun R138 =>
  zck (!decide (a134 = 0)) <|
  zlt K137.length fun a140 =>
  zlt (zzM M135 a140) fun M141 =>
  zlt (zzL L136 a140) fun L142 =>
  zlt (K137 ++ [(20, 840)]) fun K143 =>
  zlt (zupR R138 a0 39 a140) fun R144 =>
  zck (!decide (a140 = 0)) <|
  zlt K143.length fun a146 =>
  zlt (zzM M141 a146) fun M147 =>
  zlt (zzL L142 a146) fun L148 =>
  zlt (K143 ++ [(20, 64)]) fun K149 =>
  zlt (zupR R144 a0 40 a146) fun R150 =>
  zck (!decide (a146 = 0)) <|
  zlt K149.length fun a152 =>
  zlt (zzM M147 a152) fun M153 =>
  zlt (zzL L148 a152) fun L154 =>
  zlt (K149 ++ [(20, 7)]) fun K155 =>
  zlt (zupR R150 a0 42 a152) fun R156 =>
  zck (!decide (a152 = 0)) <|
  zlt K155.length fun a158 =>
  zlt (zzM M153 a158) fun M159 =>
  zlt (zzL L154 a158) fun L160 =>
  zlt (K155 ++ [(20, 400)]) fun K161 =>
  zlt (zupR R156 a0 43 a158) fun R162 =>
  zck (!decide (a158 = 0)) <|
  zlt K161.length fun a164 =>
  zlt (zzM M159 a164) fun M165 =>
  zlt (zzL L160 a164) fun L166 =>
  zlt (K161 ++ [(20, 60)]) fun K167 =>
  zlt (zupR R162 a0 45 a164) fun R168 =>
  zck (!decide (a164 = 0)) <|
  zlt K167.length fun a170 =>
  zlt (zzM M165 a170) fun M171 =>
  zlt (zzL L166 a170) fun L172 =>
  zlt (K167 ++ [(20, 60)]) fun K173 =>
  zlt (zupR R168 a0 46 a170) fun R174 =>
  zck (!decide (a170 = 0)) <|
  zlt K173.length fun a176 =>
  zlt (zzM M171 a176) fun M177 =>
  zlt (zzL L172 a176) fun L178 =>
  zlt (K173 ++ [(20, 10)]) fun K179 =>
  zlt (zupR R174 a0 47 a176) fun R180 =>
  zck (!decide (a176 = 0)) <|
  zlt K179.length fun a182 =>
  zlt (zzM M177 a182) fun M183 =>
  zlt (zzL L178 a182) fun L184 =>
  zlt (K179 ++ [(20, 1800)]) fun K185 =>
  zlt (zupR R180 a0 49 a182) fun R186 =>
  zck (!decide (a182 = 0)) <|
  zlt K185.length fun a188 =>
  zlt (zzM M183 a188) fun M189 =>
  zlt (zzL L184 a188) fun L190 =>
  zlt (K185 ++ [(20, 6321)]) fun K191 =>
  zlt (zupR R186 a0 50 a188) fun R192 =>
  zck (!decide (a188 = 0)) <|
  zlt K191.length fun a194 =>
  zlt (zzM M189 a194) fun M195 =>
  zlt (zzL L190 a194) fun L196 =>
  zlt (K191 ++ [(20, 2560)]) fun K197 =>
  zlt (zupR R192 a0 52 a194) fun R198 =>
  zck (!decide (a194 = 0)) <|
  zlt K197.length fun a200 =>
  zlt (zzM M195 a200) fun M201 =>
  zlt (zzL L196 a200) fun L202 =>
  zlt (K197 ++ [(20, 20)]) fun K203 =>
  zlt (zupR R198 a0 54 a200) fun R204 =>
  zck (!decide (a200 = 0)) <|
  zlt K203.length fun a206 =>
  zlt (zzM M201 a206) fun M207 =>
  zlt (zzL L202 a206) fun L208 =>
  zlt (K203 ++ [(20, 20)]) fun K209 =>
  zlt (zupR R204 a0 55 a206) fun R210 =>
  zck (!decide (a206 = 0)) <|
  zlt K209.length fun a212 =>
  zlt (zzM M207 a212) fun M213 =>
  zlt (zzL L208 a212) fun L214 =>
  zlt (K209 ++ [(20, 10)]) fun K215 =>
  zlt (zupR R210 a0 56 a212) fun R216 =>
  zck (!decide (a212 = 0)) <|
  zlt K215.length fun a218 =>
  zlt (zzM M213 a218) fun M219 =>
  zlt (zzL L214 a218) fun L220 =>
  zlt (K215 ++ [(20, 10)]) fun K221 =>
  zlt (zupR R216 a0 57 a218) fun R222 =>
  zck (!decide (a218 = 0)) <|
  zlt K221.length fun a224 =>
  zlt (zzM M219 a224) fun M225 =>
  zlt (zzL L220 a224) fun L226 =>
  zlt (K221 ++ [(20, 10)]) fun K227 =>
  zlt (zupR R222 a0 58 a224) fun R228 =>
  zck (!decide (a224 = 0)) <|
  zlt K227.length fun a230 =>
  zlt (zzM M225 a230) fun M231 =>
  zlt (zzL L226 a230) fun L232 =>
  zlt (K227 ++ [(22, 3)]) fun K233 =>
  zlt (zupR R228 a0 59 a230) fun R234 =>
  zck (!decide (a230 = 0)) <|
  zlt K233.length fun a236 =>
  zlt (zzM M231 a236) fun M237 =>
  zlt (zzL L232 a236) fun L238 =>
  zlt (K233 ++ [(20, 180)]) fun K239 =>
  zlt (zupR R234 a0 60 a236) fun R240 =>
  zck (!decide (a236 = 0)) <|
  zkk K239 (R240 a0 27) (20, 2) <|
  zlt (zup M237 (R240 a0 27) (ztn (0 : Int32)) (7 : Int32)) fun M243 =>
  zkk K239 (R240 a0 9) (23, 20) <|
  zbd (g_X12_word K239 (104 : Int32) (111 : Int32) (117 : Int32) (115 : Int32) (101 : Int32) (0 : Int32) (0 : Int32)) fun r245 =>
  zlt (zupL L238 (R240 a0 9) (ztn (0 : Int32)) r245) fun L247 =>
  zkk K239 (R240 a0 9) (23, 20) <|
  zbd (g_X12_word K239 (115 : Int32) (116 : Int32) (114 : Int32) (101 : Int32) (101 : Int32) (116 : Int32) (0 : Int32)) fun r249 =>
  zlt (zupL L247 (R240 a0 9) (ztn (1 : Int32)) r249) fun L251 =>
  zkk K239 (R240 a0 9) (23, 20) <|
  zbd (g_X12_word K239 (116 : Int32) (117 : Int32) (114 : Int32) (110 : Int32) (115 : Int32) (0 : Int32) (0 : Int32)) fun r253 =>
  zlt (zupL L251 (R240 a0 9) (ztn (2 : Int32)) r253) fun L255 =>
  zkk K239 (R240 a0 9) (23, 20) <|
  zbd (g_X12_word K239 (112 : Int32) (97 : Int32) (121 : Int32) (115 : Int32) (0 : Int32) (0 : Int32) (0 : Int32)) fun r257 =>
  zlt (zupL L255 (R240 a0 9) (ztn (3 : Int32)) r257) fun L259 =>
  zkk K239 (R240 a0 9) (23, 20) <|
  zbd (g_X12_word K239 (101 : Int32) (97 : Int32) (114 : Int32) (110 : Int32) (115 : Int32) (0 : Int32) (0 : Int32)) fun r261 =>
  zlt (zupL L259 (R240 a0 9) (ztn (4 : Int32)) r261) fun L263 =>
  zkk K239 (R240 a0 9) (23, 20) <|
  zbd (g_X12_word K239 (115 : Int32) (104 : Int32) (97 : Int32) (114 : Int32) (101 : Int32) (100 : Int32) (0 : Int32)) fun r265 =>
  zlt (zupL L263 (R240 a0 9) (ztn (5 : Int32)) r265) fun L267 =>
  zkk K239 (R240 a0 9) (23, 20) <|
  zbd (g_X12_word K239 (97 : Int32) (108 : Int32) (105 : Int32) (107 : Int32) (101 : Int32) (0 : Int32) (0 : Int32)) fun r269 =>
  zlt (zupL L267 (R240 a0 9) (ztn (6 : Int32)) r269) fun L271 =>
  zkk K239 (R240 a0 9) (23, 20) <|
  zbd (g_X12_word K239 (109 : Int32) (111 : Int32) (115 : Int32) (116 : Int32) (0 : Int32) (0 : Int32) (0 : Int32)) fun r273 =>
  zlt (zupL L271 (R240 a0 9) (ztn (7 : Int32)) r273) fun L275 =>
  zkk K239 (R240 a0 9) (23, 20) <|
  zbd (g_X12_word K239 (114 : Int32) (111 : Int32) (117 : Int32) (110 : Int32) (100 : Int32) (0 : Int32) (0 : Int32)) fun r277 =>
  zlt (zupL L275 (R240 a0 9) (ztn (8 : Int32)) r277) fun L279 =>
  zkk K239 (R240 a0 9) (23, 20) <|
  zbd (g_X12_word K239 (115 : Int32) (101 : Int32) (101 : Int32) (100 : Int32) (0 : Int32) (0 : Int32) (0 : Int32)) fun r281 =>
  zlt (zupL L279 (R240 a0 9) (ztn (9 : Int32)) r281) fun L283 =>
  zkk K239 (R240 a0 9) (23, 20) <|
  zbd (g_X12_word K239 (105 : Int32) (102 : Int32) (0 : Int32) (0 : Int32) (0 : Int32) (0 : Int32) (0 : Int32)) fun r285 =>
  zlt (zupL L283 (R240 a0 9) (ztn (10 : Int32)) r285) fun L287 =>
  zkk K239 (R240 a0 9) (23, 20) <|
  zbd (g_X12_word K239 (116 : Int32) (104 : Int32) (101 : Int32) (110 : Int32) (0 : Int32) (0 : Int32) (0 : Int32)) fun r289 =>
  zlt (zupL L287 (R240 a0 9) (ztn (11 : Int32)) r289) fun L291 =>
  zkk K239 (R240 a0 9) (23, 20) <|
  zbd (g_X12_word K239 (101 : Int32) (108 : Int32) (115 : Int32) (101 : Int32) (0 : Int32) (0 : Int32) (0 : Int32)) fun r293 =>
  zlt (zupL L291 (R240 a0 9) (ztn (12 : Int32)) r293) fun L295 =>
  zkk K239 (R240 a0 9) (23, 20) <|
  zbd (g_X12_word K239 (108 : Int32) (101 : Int32) (102 : Int32) (116 : Int32) (0 : Int32) (0 : Int32) (0 : Int32)) fun r297 =>
  zlt (zupL L295 (R240 a0 9) (ztn (13 : Int32)) r297) fun L299 =>
  zkk K239 (R240 a0 9) (23, 20) <|
  zbd (g_X12_word K239 (114 : Int32) (105 : Int32) (103 : Int32) (104 : Int32) (116 : Int32) (0 : Int32) (0 : Int32)) fun r301 =>
  zlt (zupL L299 (R240 a0 9) (ztn (14 : Int32)) r301) fun L303 =>
  zkk K239 (R240 a0 9) (23, 20) <|
  zbd (g_X12_word K239 (111 : Int32) (119 : Int32) (110 : Int32) (0 : Int32) (0 : Int32) (0 : Int32) (0 : Int32)) fun r305 =>
  zlt (zupL L303 (R240 a0 9) (ztn (15 : Int32)) r305) fun L307 =>
  zkk K239 (R240 a0 9) (23, 20) <|
  zbd (g_X12_word K239 (103 : Int32) (97 : Int32) (112 : Int32) (0 : Int32) (0 : Int32) (0 : Int32) (0 : Int32)) fun r309 =>
  zlt (zupL L307 (R240 a0 9) (ztn (16 : Int32)) r309) fun L311 =>
  zkk K239 (R240 a0 9) (23, 20) <|
  zbd (g_X12_word K239 (100 : Int32) (97 : Int32) (121 : Int32) (0 : Int32) (0 : Int32) (0 : Int32) (0 : Int32)) fun r313 =>
  zlt (zupL L311 (R240 a0 9) (ztn (17 : Int32)) r313) fun L315 =>
  zkk K239 (R240 a0 9) (23, 20) <|
  zbd (g_X12_word K239 (108 : Int32) (111 : Int32) (116 : Int32) (0 : Int32) (0 : Int32) (0 : Int32) (0 : Int32)) fun r317 =>
  zlt (zupL L315 (R240 a0 9) (ztn (18 : Int32)) r317) fun L319 =>
  zkk K239 (R240 a0 9) (23, 20) <|
  zbd (g_X12_word K239 (112 : Int32) (111 : Int32) (116 : Int32) (0 : Int32) (0 : Int32) (0 : Int32) (0 : Int32)) fun r321 =>
  zlt (zupL L319 (R240 a0 9) (ztn (19 : Int32)) r321) fun L323 =>
  some (K239, R240, M243, L323)
set_option maxRecDepth 20000 in
theorem ok_X12_init_g {G : zG} {K : zK} {R : zR} {M : zM} {L : zL} {a0 : Nat} {K' : zK} {R' : zR} {M' : zM} {L' : zL} (h : g_X12_init K R M L a0 = some (K', R', M', L')) : Rm G mt_X12_init [.ref a0] (M, L, R, K) none (M', L', R', K') := by
  refine rm_rn rfl rfl (Nat.le_of_ble_eq_true rfl) ?_
  show Rn G mt_X12_init 0 [(0, .ref a0)] [] (M, L, R, K) none (M', L', R', K')
  unfold g_X12_init at h
  obtain ⟨k_a0z, k_a0, h⟩ := zkk_e h
  refine rn_aload_n (q := 0) 0 rfl zd_X12_init_0.1.1.1.1 ?_
  refine rn_objInit zb_X12_7 zoi zoc ⟨by decide, by decide⟩ (Nat.le_of_ble_eq_true rfl) zd_X12_init_0.1.1.1.2 ?_
  refine rn_aload_n (q := 0) 0 rfl zd_X12_init_0.1.1.2.1 ?_
  refine rn_sipush (v := 2000) zd_X12_init_0.1.1.2.2 rfl ?_
  obtain ⟨a1, ha1, h⟩ := zlt_e h
  obtain ⟨M2, hM2, h⟩ := zlt_e h
  obtain ⟨L3, hL3, h⟩ := zlt_e h
  obtain ⟨K4, hK4, h⟩ := zlt_e h
  refine rn_newaE (at_ := .byte) ha1 hM2 hL3 hK4 zqa_byte rfl (by decide) (Or.inr (Or.inl ⟨rfl, rfl⟩)) zd_X12_init_0.1.2.1.1 ?_
  obtain ⟨R5, hR5, h⟩ := zlt_e h
  obtain ⟨hn6, h⟩ := zck_e h
  refine rn_putR hR5 (zbne hn6) (Or.inr ⟨_, rfl⟩) (fun _ => ⟨rfl, rfl⟩) zf_X12_13 (zkl hK4 k_a0) zd_X12_init_0.1.2.1.2 ?_
  refine rn_aload_n (q := 0) 0 rfl zd_X12_init_0.1.2.2.1 ?_
  refine rn_sipush (v := 2000) zd_X12_init_0.1.2.2.2 rfl ?_
  obtain ⟨a7, ha7, h⟩ := zlt_e h
  obtain ⟨M8, hM8, h⟩ := zlt_e h
  obtain ⟨L9, hL9, h⟩ := zlt_e h
  obtain ⟨K10, hK10, h⟩ := zlt_e h
  refine rn_newaE (at_ := .byte) ha7 hM8 hL9 hK10 zqa_byte rfl (by decide) (Or.inr (Or.inl ⟨rfl, rfl⟩)) zd_X12_init_0.2.1.1.1 ?_
  obtain ⟨R11, hR11, h⟩ := zlt_e h
  obtain ⟨hn12, h⟩ := zck_e h
  refine rn_putR hR11 (zbne hn12) (Or.inr ⟨_, rfl⟩) (fun _ => ⟨rfl, rfl⟩) zf_X12_17 (zkl hK10 (zkl hK4 k_a0)) zd_X12_init_0.2.1.1.2 ?_
  refine rn_aload_n (q := 0) 0 rfl zd_X12_init_0.2.1.2.1 ?_
  refine rn_sipush (v := 403) zd_X12_init_0.2.1.2.2 rfl ?_
  obtain ⟨a13, ha13, h⟩ := zlt_e h
  obtain ⟨M14, hM14, h⟩ := zlt_e h
  obtain ⟨L15, hL15, h⟩ := zlt_e h
  obtain ⟨K16, hK16, h⟩ := zlt_e h
  refine rn_newaE (at_ := .int) ha13 hM14 hL15 hK16 zqa_int rfl (by decide) (Or.inl ⟨rfl, rfl⟩) zd_X12_init_0.2.2.1.1 ?_
  obtain ⟨R17, hR17, h⟩ := zlt_e h
  obtain ⟨hn18, h⟩ := zck_e h
  refine rn_putR hR17 (zbne hn18) (Or.inr ⟨_, rfl⟩) (fun _ => ⟨rfl, rfl⟩) zf_X12_20 (zkl hK16 (zkl hK10 (zkl hK4 k_a0))) zd_X12_init_0.2.2.1.2 ?_
  refine rn_aload_n (q := 0) 0 rfl zd_X12_init_0.2.2.2.1 ?_
  refine rn_sipush (v := 403) zd_X12_init_0.2.2.2.2 rfl ?_
  obtain ⟨a19, ha19, h⟩ := zlt_e h
  obtain ⟨M20, hM20, h⟩ := zlt_e h
  obtain ⟨L21, hL21, h⟩ := zlt_e h
  obtain ⟨K22, hK22, h⟩ := zlt_e h
  refine rn_newaE (at_ := .int) ha19 hM20 hL21 hK22 zqa_int rfl (by decide) (Or.inl ⟨rfl, rfl⟩) zd_X12_init_1.1.1.1.1 ?_
  obtain ⟨R23, hR23, h⟩ := zlt_e h
  obtain ⟨hn24, h⟩ := zck_e h
  refine rn_putR hR23 (zbne hn24) (Or.inr ⟨_, rfl⟩) (fun _ => ⟨rfl, rfl⟩) zf_X12_24 (zkl hK22 (zkl hK16 (zkl hK10 (zkl hK4 k_a0)))) zd_X12_init_1.1.1.1.2 ?_
  refine rn_aload_n (q := 0) 0 rfl zd_X12_init_1.1.1.2.1 ?_
  refine rn_sipush (v := 403) zd_X12_init_1.1.1.2.2 rfl ?_
  obtain ⟨a25, ha25, h⟩ := zlt_e h
  obtain ⟨M26, hM26, h⟩ := zlt_e h
  obtain ⟨L27, hL27, h⟩ := zlt_e h
  obtain ⟨K28, hK28, h⟩ := zlt_e h
  refine rn_newaE (at_ := .int) ha25 hM26 hL27 hK28 zqa_int rfl (by decide) (Or.inl ⟨rfl, rfl⟩) zd_X12_init_1.1.2.1.1 ?_
  obtain ⟨R29, hR29, h⟩ := zlt_e h
  obtain ⟨hn30, h⟩ := zck_e h
  refine rn_putR hR29 (zbne hn30) (Or.inr ⟨_, rfl⟩) (fun _ => ⟨rfl, rfl⟩) zf_X12_27 (zkl hK28 (zkl hK22 (zkl hK16 (zkl hK10 (zkl hK4 k_a0))))) zd_X12_init_1.1.2.1.2 ?_
  refine rn_aload_n (q := 0) 0 rfl zd_X12_init_1.1.2.2.1 ?_
  refine rn_sipush (v := 403) zd_X12_init_1.1.2.2.2 rfl ?_
  obtain ⟨a31, ha31, h⟩ := zlt_e h
  obtain ⟨M32, hM32, h⟩ := zlt_e h
  obtain ⟨L33, hL33, h⟩ := zlt_e h
  obtain ⟨K34, hK34, h⟩ := zlt_e h
  refine rn_newaE (at_ := .long) ha31 hM32 hL33 hK34 zqa_long rfl (by decide) (Or.inr (Or.inr (Or.inr ⟨rfl, rfl⟩))) zd_X12_init_1.2.1.1.1 ?_
  obtain ⟨R35, hR35, h⟩ := zlt_e h
  obtain ⟨hn36, h⟩ := zck_e h
  refine rn_putR hR35 (zbne hn36) (Or.inr ⟨_, rfl⟩) (fun _ => ⟨rfl, rfl⟩) zf_X12_30 (zkl hK34 (zkl hK28 (zkl hK22 (zkl hK16 (zkl hK10 (zkl hK4 k_a0)))))) zd_X12_init_1.2.1.1.2 ?_
  refine rn_aload_n (q := 0) 0 rfl zd_X12_init_1.2.1.2.1 ?_
  refine rn_bipush (v := 20) zd_X12_init_1.2.1.2.2 rfl ?_
  obtain ⟨a37, ha37, h⟩ := zlt_e h
  obtain ⟨M38, hM38, h⟩ := zlt_e h
  obtain ⟨L39, hL39, h⟩ := zlt_e h
  obtain ⟨K40, hK40, h⟩ := zlt_e h
  refine rn_newaE (at_ := .long) ha37 hM38 hL39 hK40 zqa_long rfl (by decide) (Or.inr (Or.inr (Or.inr ⟨rfl, rfl⟩))) zd_X12_init_1.2.2.1.1 ?_
  obtain ⟨R41, hR41, h⟩ := zlt_e h
  obtain ⟨hn42, h⟩ := zck_e h
  refine rn_putR hR41 (zbne hn42) (Or.inr ⟨_, rfl⟩) (fun _ => ⟨rfl, rfl⟩) zf_X12_34 (zkl hK40 (zkl hK34 (zkl hK28 (zkl hK22 (zkl hK16 (zkl hK10 (zkl hK4 k_a0))))))) zd_X12_init_1.2.2.1.2 ?_
  refine rn_aload_n (q := 0) 0 rfl zd_X12_init_1.2.2.2.1 ?_
  refine rn_iconst (v := -1) zd_X12_init_1.2.2.2.2 rfl ?_
  obtain ⟨M43, hM43, h⟩ := zlt_e h
  refine rn_putI hM43 zf_X12_37 (zkl hK40 (zkl hK34 (zkl hK28 (zkl hK22 (zkl hK16 (zkl hK10 (zkl hK4 k_a0))))))) zd_X12_init_2.1.1.1.1 ?_
  refine rn_aload_n (q := 0) 0 rfl zd_X12_init_2.1.1.1.2 ?_
  refine rn_bipush (v := 10) zd_X12_init_2.1.1.2.1 rfl ?_
  obtain ⟨a44, ha44, h⟩ := zlt_e h
  obtain ⟨M45, hM45, h⟩ := zlt_e h
  obtain ⟨L46, hL46, h⟩ := zlt_e h
  obtain ⟨K47, hK47, h⟩ := zlt_e h
  refine rn_newaE (at_ := .long) ha44 hM45 hL46 hK47 zqa_long rfl (by decide) (Or.inr (Or.inr (Or.inr ⟨rfl, rfl⟩))) zd_X12_init_2.1.1.2.2 ?_
  obtain ⟨R48, hR48, h⟩ := zlt_e h
  obtain ⟨hn49, h⟩ := zck_e h
  refine rn_putR hR48 (zbne hn49) (Or.inr ⟨_, rfl⟩) (fun _ => ⟨rfl, rfl⟩) zf_X12_40 (zkl hK47 (zkl hK40 (zkl hK34 (zkl hK28 (zkl hK22 (zkl hK16 (zkl hK10 (zkl hK4 k_a0)))))))) zd_X12_init_2.1.2.1.1 ?_
  refine rn_aload_n (q := 0) 0 rfl zd_X12_init_2.1.2.1.2 ?_
  refine rn_iconst (v := 2) zd_X12_init_2.1.2.2.1 rfl ?_
  obtain ⟨a50, ha50, h⟩ := zlt_e h
  obtain ⟨M51, hM51, h⟩ := zlt_e h
  obtain ⟨L52, hL52, h⟩ := zlt_e h
  obtain ⟨K53, hK53, h⟩ := zlt_e h
  refine rn_newaE (at_ := .int) ha50 hM51 hL52 hK53 zqa_int rfl (by decide) (Or.inl ⟨rfl, rfl⟩) zd_X12_init_2.1.2.2.2 ?_
  obtain ⟨R54, hR54, h⟩ := zlt_e h
  obtain ⟨hn55, h⟩ := zck_e h
  refine rn_putR hR54 (zbne hn55) (Or.inr ⟨_, rfl⟩) (fun _ => ⟨rfl, rfl⟩) zf_X12_43 (zkl hK53 (zkl hK47 (zkl hK40 (zkl hK34 (zkl hK28 (zkl hK22 (zkl hK16 (zkl hK10 (zkl hK4 k_a0))))))))) zd_X12_init_2.2.1.1.1 ?_
  refine rn_aload_n (q := 0) 0 rfl zd_X12_init_2.2.1.1.2 ?_
  refine rn_bipush (v := 20) zd_X12_init_2.2.1.2.1 rfl ?_
  obtain ⟨a56, ha56, h⟩ := zlt_e h
  obtain ⟨M57, hM57, h⟩ := zlt_e h
  obtain ⟨L58, hL58, h⟩ := zlt_e h
  obtain ⟨K59, hK59, h⟩ := zlt_e h
  refine rn_newaE (at_ := .int) ha56 hM57 hL58 hK59 zqa_int rfl (by decide) (Or.inl ⟨rfl, rfl⟩) zd_X12_init_2.2.1.2.2 ?_
  obtain ⟨R60, hR60, h⟩ := zlt_e h
  obtain ⟨hn61, h⟩ := zck_e h
  refine rn_putR hR60 (zbne hn61) (Or.inr ⟨_, rfl⟩) (fun _ => ⟨rfl, rfl⟩) zf_X12_46 (zkl hK59 (zkl hK53 (zkl hK47 (zkl hK40 (zkl hK34 (zkl hK28 (zkl hK22 (zkl hK16 (zkl hK10 (zkl hK4 k_a0)))))))))) zd_X12_init_2.2.2.1.1 ?_
  refine rn_aload_n (q := 0) 0 rfl zd_X12_init_2.2.2.1.2 ?_
  refine rn_iconst (v := 2) zd_X12_init_2.2.2.2.1 rfl ?_
  obtain ⟨a62, ha62, h⟩ := zlt_e h
  obtain ⟨M63, hM63, h⟩ := zlt_e h
  obtain ⟨L64, hL64, h⟩ := zlt_e h
  obtain ⟨K65, hK65, h⟩ := zlt_e h
  refine rn_newaE (at_ := .boolean) ha62 hM63 hL64 hK65 zqa_boolean rfl (by decide) (Or.inr (Or.inr (Or.inl ⟨rfl, rfl⟩))) zd_X12_init_2.2.2.2.2 ?_
  obtain ⟨R66, hR66, h⟩ := zlt_e h
  obtain ⟨hn67, h⟩ := zck_e h
  refine rn_putR hR66 (zbne hn67) (Or.inr ⟨_, rfl⟩) (fun _ => ⟨rfl, rfl⟩) zf_X12_49 (zkl hK65 (zkl hK59 (zkl hK53 (zkl hK47 (zkl hK40 (zkl hK34 (zkl hK28 (zkl hK22 (zkl hK16 (zkl hK10 (zkl hK4 k_a0))))))))))) zd_X12_init_3.1.1.1.1 ?_
  refine rn_aload_n (q := 0) 0 rfl zd_X12_init_3.1.1.1.2 ?_
  refine rn_iconst (v := 2) zd_X12_init_3.1.1.2.1 rfl ?_
  obtain ⟨a68, ha68, h⟩ := zlt_e h
  obtain ⟨M69, hM69, h⟩ := zlt_e h
  obtain ⟨L70, hL70, h⟩ := zlt_e h
  obtain ⟨K71, hK71, h⟩ := zlt_e h
  refine rn_newaE (at_ := .boolean) ha68 hM69 hL70 hK71 zqa_boolean rfl (by decide) (Or.inr (Or.inr (Or.inl ⟨rfl, rfl⟩))) zd_X12_init_3.1.1.2.2 ?_
  obtain ⟨R72, hR72, h⟩ := zlt_e h
  obtain ⟨hn73, h⟩ := zck_e h
  refine rn_putR hR72 (zbne hn73) (Or.inr ⟨_, rfl⟩) (fun _ => ⟨rfl, rfl⟩) zf_X12_53 (zkl hK71 (zkl hK65 (zkl hK59 (zkl hK53 (zkl hK47 (zkl hK40 (zkl hK34 (zkl hK28 (zkl hK22 (zkl hK16 (zkl hK10 (zkl hK4 k_a0)))))))))))) zd_X12_init_3.1.2.1.1 ?_
  refine rn_aload_n (q := 0) 0 rfl zd_X12_init_3.1.2.1.2 ?_
  refine rn_iconst (v := 2) zd_X12_init_3.1.2.2.1 rfl ?_
  obtain ⟨a74, ha74, h⟩ := zlt_e h
  obtain ⟨M75, hM75, h⟩ := zlt_e h
  obtain ⟨L76, hL76, h⟩ := zlt_e h
  obtain ⟨K77, hK77, h⟩ := zlt_e h
  refine rn_newaE (at_ := .int) ha74 hM75 hL76 hK77 zqa_int rfl (by decide) (Or.inl ⟨rfl, rfl⟩) zd_X12_init_3.1.2.2.2 ?_
  obtain ⟨R78, hR78, h⟩ := zlt_e h
  obtain ⟨hn79, h⟩ := zck_e h
  refine rn_putR hR78 (zbne hn79) (Or.inr ⟨_, rfl⟩) (fun _ => ⟨rfl, rfl⟩) zf_X12_56 (zkl hK77 (zkl hK71 (zkl hK65 (zkl hK59 (zkl hK53 (zkl hK47 (zkl hK40 (zkl hK34 (zkl hK28 (zkl hK22 (zkl hK16 (zkl hK10 (zkl hK4 k_a0))))))))))))) zd_X12_init_3.2.1.1.1 ?_
  refine rn_aload_n (q := 0) 0 rfl zd_X12_init_3.2.1.1.2 ?_
  refine rn_iconst (v := 2) zd_X12_init_3.2.1.2.1 rfl ?_
  obtain ⟨a80, ha80, h⟩ := zlt_e h
  obtain ⟨M81, hM81, h⟩ := zlt_e h
  obtain ⟨L82, hL82, h⟩ := zlt_e h
  obtain ⟨K83, hK83, h⟩ := zlt_e h
  refine rn_newaE (at_ := .int) ha80 hM81 hL82 hK83 zqa_int rfl (by decide) (Or.inl ⟨rfl, rfl⟩) zd_X12_init_3.2.1.2.2 ?_
  obtain ⟨R84, hR84, h⟩ := zlt_e h
  obtain ⟨hn85, h⟩ := zck_e h
  refine rn_putR hR84 (zbne hn85) (Or.inr ⟨_, rfl⟩) (fun _ => ⟨rfl, rfl⟩) zf_X12_59 (zkl hK83 (zkl hK77 (zkl hK71 (zkl hK65 (zkl hK59 (zkl hK53 (zkl hK47 (zkl hK40 (zkl hK34 (zkl hK28 (zkl hK22 (zkl hK16 (zkl hK10 (zkl hK4 k_a0)))))))))))))) zd_X12_init_3.2.2.1.1 ?_
  refine rn_aload_n (q := 0) 0 rfl zd_X12_init_3.2.2.1.2 ?_
  refine rn_iconst (v := 2) zd_X12_init_3.2.2.2.1 rfl ?_
  obtain ⟨a86, ha86, h⟩ := zlt_e h
  obtain ⟨M87, hM87, h⟩ := zlt_e h
  obtain ⟨L88, hL88, h⟩ := zlt_e h
  obtain ⟨K89, hK89, h⟩ := zlt_e h
  refine rn_newaE (at_ := .int) ha86 hM87 hL88 hK89 zqa_int rfl (by decide) (Or.inl ⟨rfl, rfl⟩) zd_X12_init_3.2.2.2.2 ?_
  obtain ⟨R90, hR90, h⟩ := zlt_e h
  obtain ⟨hn91, h⟩ := zck_e h
  refine rn_putR hR90 (zbne hn91) (Or.inr ⟨_, rfl⟩) (fun _ => ⟨rfl, rfl⟩) zf_X12_62 (zkl hK89 (zkl hK83 (zkl hK77 (zkl hK71 (zkl hK65 (zkl hK59 (zkl hK53 (zkl hK47 (zkl hK40 (zkl hK34 (zkl hK28 (zkl hK22 (zkl hK16 (zkl hK10 (zkl hK4 k_a0))))))))))))))) zd_X12_init_4.1.1.1.1 ?_
  refine rn_aload_n (q := 0) 0 rfl zd_X12_init_4.1.1.1.2 ?_
  refine rn_iconst (v := 4) zd_X12_init_4.1.1.2.1 rfl ?_
  obtain ⟨a92, ha92, h⟩ := zlt_e h
  obtain ⟨M93, hM93, h⟩ := zlt_e h
  obtain ⟨L94, hL94, h⟩ := zlt_e h
  obtain ⟨K95, hK95, h⟩ := zlt_e h
  refine rn_newaE (at_ := .int) ha92 hM93 hL94 hK95 zqa_int rfl (by decide) (Or.inl ⟨rfl, rfl⟩) zd_X12_init_4.1.1.2.2 ?_
  obtain ⟨R96, hR96, h⟩ := zlt_e h
  obtain ⟨hn97, h⟩ := zck_e h
  refine rn_putR hR96 (zbne hn97) (Or.inr ⟨_, rfl⟩) (fun _ => ⟨rfl, rfl⟩) zf_X12_65 (zkl hK95 (zkl hK89 (zkl hK83 (zkl hK77 (zkl hK71 (zkl hK65 (zkl hK59 (zkl hK53 (zkl hK47 (zkl hK40 (zkl hK34 (zkl hK28 (zkl hK22 (zkl hK16 (zkl hK10 (zkl hK4 k_a0)))))))))))))))) zd_X12_init_4.1.2.1.1 ?_
  refine rn_aload_n (q := 0) 0 rfl zd_X12_init_4.1.2.1.2 ?_
  refine rn_iconst (v := 4) zd_X12_init_4.1.2.2.1 rfl ?_
  obtain ⟨a98, ha98, h⟩ := zlt_e h
  obtain ⟨M99, hM99, h⟩ := zlt_e h
  obtain ⟨L100, hL100, h⟩ := zlt_e h
  obtain ⟨K101, hK101, h⟩ := zlt_e h
  refine rn_newaE (at_ := .int) ha98 hM99 hL100 hK101 zqa_int rfl (by decide) (Or.inl ⟨rfl, rfl⟩) zd_X12_init_4.1.2.2.2 ?_
  obtain ⟨R102, hR102, h⟩ := zlt_e h
  obtain ⟨hn103, h⟩ := zck_e h
  refine rn_putR hR102 (zbne hn103) (Or.inr ⟨_, rfl⟩) (fun _ => ⟨rfl, rfl⟩) zf_X12_68 (zkl hK101 (zkl hK95 (zkl hK89 (zkl hK83 (zkl hK77 (zkl hK71 (zkl hK65 (zkl hK59 (zkl hK53 (zkl hK47 (zkl hK40 (zkl hK34 (zkl hK28 (zkl hK22 (zkl hK16 (zkl hK10 (zkl hK4 k_a0))))))))))))))))) zd_X12_init_4.2.1.1.1 ?_
  refine rn_aload_n (q := 0) 0 rfl zd_X12_init_4.2.1.1.2 ?_
  refine rn_sipush (v := 260) zd_X12_init_4.2.1.2.1 rfl ?_
  obtain ⟨a104, ha104, h⟩ := zlt_e h
  obtain ⟨M105, hM105, h⟩ := zlt_e h
  obtain ⟨L106, hL106, h⟩ := zlt_e h
  obtain ⟨K107, hK107, h⟩ := zlt_e h
  refine rn_newaE (at_ := .boolean) ha104 hM105 hL106 hK107 zqa_boolean rfl (by decide) (Or.inr (Or.inr (Or.inl ⟨rfl, rfl⟩))) zd_X12_init_4.2.1.2.2 ?_
  obtain ⟨R108, hR108, h⟩ := zlt_e h
  obtain ⟨hn109, h⟩ := zck_e h
  refine rn_putR hR108 (zbne hn109) (Or.inr ⟨_, rfl⟩) (fun _ => ⟨rfl, rfl⟩) zf_X12_71 (zkl hK107 (zkl hK101 (zkl hK95 (zkl hK89 (zkl hK83 (zkl hK77 (zkl hK71 (zkl hK65 (zkl hK59 (zkl hK53 (zkl hK47 (zkl hK40 (zkl hK34 (zkl hK28 (zkl hK22 (zkl hK16 (zkl hK10 (zkl hK4 k_a0)))))))))))))))))) zd_X12_init_4.2.2.1.1 ?_
  refine rn_aload_n (q := 0) 0 rfl zd_X12_init_4.2.2.1.2 ?_
  refine rn_sipush (v := 260) zd_X12_init_4.2.2.2.1 rfl ?_
  obtain ⟨a110, ha110, h⟩ := zlt_e h
  obtain ⟨M111, hM111, h⟩ := zlt_e h
  obtain ⟨L112, hL112, h⟩ := zlt_e h
  obtain ⟨K113, hK113, h⟩ := zlt_e h
  refine rn_newaE (at_ := .int) ha110 hM111 hL112 hK113 zqa_int rfl (by decide) (Or.inl ⟨rfl, rfl⟩) zd_X12_init_4.2.2.2.2 ?_
  obtain ⟨R114, hR114, h⟩ := zlt_e h
  obtain ⟨hn115, h⟩ := zck_e h
  refine rn_putR hR114 (zbne hn115) (Or.inr ⟨_, rfl⟩) (fun _ => ⟨rfl, rfl⟩) zf_X12_74 (zkl hK113 (zkl hK107 (zkl hK101 (zkl hK95 (zkl hK89 (zkl hK83 (zkl hK77 (zkl hK71 (zkl hK65 (zkl hK59 (zkl hK53 (zkl hK47 (zkl hK40 (zkl hK34 (zkl hK28 (zkl hK22 (zkl hK16 (zkl hK10 (zkl hK4 k_a0))))))))))))))))))) zd_X12_init_5.1.1.1.1 ?_
  refine rn_aload_n (q := 0) 0 rfl zd_X12_init_5.1.1.1.2 ?_
  refine rn_sipush (v := 260) zd_X12_init_5.1.1.2.1 rfl ?_
  obtain ⟨a116, ha116, h⟩ := zlt_e h
  obtain ⟨M117, hM117, h⟩ := zlt_e h
  obtain ⟨L118, hL118, h⟩ := zlt_e h
  obtain ⟨K119, hK119, h⟩ := zlt_e h
  refine rn_newaE (at_ := .int) ha116 hM117 hL118 hK119 zqa_int rfl (by decide) (Or.inl ⟨rfl, rfl⟩) zd_X12_init_5.1.1.2.2 ?_
  obtain ⟨R120, hR120, h⟩ := zlt_e h
  obtain ⟨hn121, h⟩ := zck_e h
  refine rn_putR hR120 (zbne hn121) (Or.inr ⟨_, rfl⟩) (fun _ => ⟨rfl, rfl⟩) zf_X12_77 (zkl hK119 (zkl hK113 (zkl hK107 (zkl hK101 (zkl hK95 (zkl hK89 (zkl hK83 (zkl hK77 (zkl hK71 (zkl hK65 (zkl hK59 (zkl hK53 (zkl hK47 (zkl hK40 (zkl hK34 (zkl hK28 (zkl hK22 (zkl hK16 (zkl hK10 (zkl hK4 k_a0)))))))))))))))))))) zd_X12_init_5.1.2.1.1 ?_
  refine rn_aload_n (q := 0) 0 rfl zd_X12_init_5.1.2.1.2 ?_
  refine rn_sipush (v := 260) zd_X12_init_5.1.2.2.1 rfl ?_
  obtain ⟨a122, ha122, h⟩ := zlt_e h
  obtain ⟨M123, hM123, h⟩ := zlt_e h
  obtain ⟨L124, hL124, h⟩ := zlt_e h
  obtain ⟨K125, hK125, h⟩ := zlt_e h
  refine rn_newaE (at_ := .int) ha122 hM123 hL124 hK125 zqa_int rfl (by decide) (Or.inl ⟨rfl, rfl⟩) zd_X12_init_5.1.2.2.2 ?_
  obtain ⟨R126, hR126, h⟩ := zlt_e h
  obtain ⟨hn127, h⟩ := zck_e h
  refine rn_putR hR126 (zbne hn127) (Or.inr ⟨_, rfl⟩) (fun _ => ⟨rfl, rfl⟩) zf_X12_80 (zkl hK125 (zkl hK119 (zkl hK113 (zkl hK107 (zkl hK101 (zkl hK95 (zkl hK89 (zkl hK83 (zkl hK77 (zkl hK71 (zkl hK65 (zkl hK59 (zkl hK53 (zkl hK47 (zkl hK40 (zkl hK34 (zkl hK28 (zkl hK22 (zkl hK16 (zkl hK10 (zkl hK4 k_a0))))))))))))))))))))) zd_X12_init_5.2.1.1.1 ?_
  refine rn_aload_n (q := 0) 0 rfl zd_X12_init_5.2.1.1.2 ?_
  refine rn_sipush (v := 260) zd_X12_init_5.2.1.2.1 rfl ?_
  obtain ⟨a128, ha128, h⟩ := zlt_e h
  obtain ⟨M129, hM129, h⟩ := zlt_e h
  obtain ⟨L130, hL130, h⟩ := zlt_e h
  obtain ⟨K131, hK131, h⟩ := zlt_e h
  refine rn_newaE (at_ := .int) ha128 hM129 hL130 hK131 zqa_int rfl (by decide) (Or.inl ⟨rfl, rfl⟩) zd_X12_init_5.2.1.2.2 ?_
  obtain ⟨R132, hR132, h⟩ := zlt_e h
  obtain ⟨hn133, h⟩ := zck_e h
  refine rn_putR hR132 (zbne hn133) (Or.inr ⟨_, rfl⟩) (fun _ => ⟨rfl, rfl⟩) zf_X12_83 (zkl hK131 (zkl hK125 (zkl hK119 (zkl hK113 (zkl hK107 (zkl hK101 (zkl hK95 (zkl hK89 (zkl hK83 (zkl hK77 (zkl hK71 (zkl hK65 (zkl hK59 (zkl hK53 (zkl hK47 (zkl hK40 (zkl hK34 (zkl hK28 (zkl hK22 (zkl hK16 (zkl hK10 (zkl hK4 k_a0)))))))))))))))))))))) zd_X12_init_5.2.2.1.1 ?_
  refine rn_aload_n (q := 0) 0 rfl zd_X12_init_5.2.2.1.2 ?_
  refine rn_sipush (v := 840) zd_X12_init_5.2.2.2.1 rfl ?_
  obtain ⟨a134, ha134, h⟩ := zlt_e h
  obtain ⟨M135, hM135, h⟩ := zlt_e h
  obtain ⟨L136, hL136, h⟩ := zlt_e h
  obtain ⟨K137, hK137, h⟩ := zlt_e h
  refine rn_newaE (at_ := .int) ha134 hM135 hL136 hK137 zqa_int rfl (by decide) (Or.inl ⟨rfl, rfl⟩) zd_X12_init_5.2.2.2.2 ?_
  obtain ⟨R138, hR138, h⟩ := zlt_e h
  obtain ⟨hn139, h⟩ := zck_e h
  refine rn_putR hR138 (zbne hn139) (Or.inr ⟨_, rfl⟩) (fun _ => ⟨rfl, rfl⟩) zf_X12_86 (zkl hK137 (zkl hK131 (zkl hK125 (zkl hK119 (zkl hK113 (zkl hK107 (zkl hK101 (zkl hK95 (zkl hK89 (zkl hK83 (zkl hK77 (zkl hK71 (zkl hK65 (zkl hK59 (zkl hK53 (zkl hK47 (zkl hK40 (zkl hK34 (zkl hK28 (zkl hK22 (zkl hK16 (zkl hK10 (zkl hK4 k_a0))))))))))))))))))))))) zd_X12_init_6.1.1.1.1 ?_
  refine rn_aload_n (q := 0) 0 rfl zd_X12_init_6.1.1.1.2 ?_
  refine rn_sipush (v := 840) zd_X12_init_6.1.1.2.1 rfl ?_
  obtain ⟨a140, ha140, h⟩ := zlt_e h
  obtain ⟨M141, hM141, h⟩ := zlt_e h
  obtain ⟨L142, hL142, h⟩ := zlt_e h
  obtain ⟨K143, hK143, h⟩ := zlt_e h
  refine rn_newaE (at_ := .int) ha140 hM141 hL142 hK143 zqa_int rfl (by decide) (Or.inl ⟨rfl, rfl⟩) zd_X12_init_6.1.1.2.2 ?_
  obtain ⟨R144, hR144, h⟩ := zlt_e h
  obtain ⟨hn145, h⟩ := zck_e h
  refine rn_putR hR144 (zbne hn145) (Or.inr ⟨_, rfl⟩) (fun _ => ⟨rfl, rfl⟩) zf_X12_89 (zkl hK143 (zkl hK137 (zkl hK131 (zkl hK125 (zkl hK119 (zkl hK113 (zkl hK107 (zkl hK101 (zkl hK95 (zkl hK89 (zkl hK83 (zkl hK77 (zkl hK71 (zkl hK65 (zkl hK59 (zkl hK53 (zkl hK47 (zkl hK40 (zkl hK34 (zkl hK28 (zkl hK22 (zkl hK16 (zkl hK10 (zkl hK4 k_a0)))))))))))))))))))))))) zd_X12_init_6.1.2.1.1 ?_
  refine rn_aload_n (q := 0) 0 rfl zd_X12_init_6.1.2.1.2 ?_
  refine rn_bipush (v := 64) zd_X12_init_6.1.2.2.1 rfl ?_
  obtain ⟨a146, ha146, h⟩ := zlt_e h
  obtain ⟨M147, hM147, h⟩ := zlt_e h
  obtain ⟨L148, hL148, h⟩ := zlt_e h
  obtain ⟨K149, hK149, h⟩ := zlt_e h
  refine rn_newaE (at_ := .int) ha146 hM147 hL148 hK149 zqa_int rfl (by decide) (Or.inl ⟨rfl, rfl⟩) zd_X12_init_6.1.2.2.2 ?_
  obtain ⟨R150, hR150, h⟩ := zlt_e h
  obtain ⟨hn151, h⟩ := zck_e h
  refine rn_putR hR150 (zbne hn151) (Or.inr ⟨_, rfl⟩) (fun _ => ⟨rfl, rfl⟩) zf_X12_92 (zkl hK149 (zkl hK143 (zkl hK137 (zkl hK131 (zkl hK125 (zkl hK119 (zkl hK113 (zkl hK107 (zkl hK101 (zkl hK95 (zkl hK89 (zkl hK83 (zkl hK77 (zkl hK71 (zkl hK65 (zkl hK59 (zkl hK53 (zkl hK47 (zkl hK40 (zkl hK34 (zkl hK28 (zkl hK22 (zkl hK16 (zkl hK10 (zkl hK4 k_a0))))))))))))))))))))))))) zd_X12_init_6.2.1.1.1 ?_
  refine rn_aload_n (q := 0) 0 rfl zd_X12_init_6.2.1.1.2 ?_
  refine rn_bipush (v := 7) zd_X12_init_6.2.1.2.1 rfl ?_
  obtain ⟨a152, ha152, h⟩ := zlt_e h
  obtain ⟨M153, hM153, h⟩ := zlt_e h
  obtain ⟨L154, hL154, h⟩ := zlt_e h
  obtain ⟨K155, hK155, h⟩ := zlt_e h
  refine rn_newaE (at_ := .int) ha152 hM153 hL154 hK155 zqa_int rfl (by decide) (Or.inl ⟨rfl, rfl⟩) zd_X12_init_6.2.1.2.2 ?_
  obtain ⟨R156, hR156, h⟩ := zlt_e h
  obtain ⟨hn157, h⟩ := zck_e h
  refine rn_putR hR156 (zbne hn157) (Or.inr ⟨_, rfl⟩) (fun _ => ⟨rfl, rfl⟩) zf_X12_95 (zkl hK155 (zkl hK149 (zkl hK143 (zkl hK137 (zkl hK131 (zkl hK125 (zkl hK119 (zkl hK113 (zkl hK107 (zkl hK101 (zkl hK95 (zkl hK89 (zkl hK83 (zkl hK77 (zkl hK71 (zkl hK65 (zkl hK59 (zkl hK53 (zkl hK47 (zkl hK40 (zkl hK34 (zkl hK28 (zkl hK22 (zkl hK16 (zkl hK10 (zkl hK4 k_a0)))))))))))))))))))))))))) zd_X12_init_6.2.2.1.1 ?_
  refine rn_aload_n (q := 0) 0 rfl zd_X12_init_6.2.2.1.2 ?_
  refine rn_sipush (v := 400) zd_X12_init_6.2.2.2.1 rfl ?_
  obtain ⟨a158, ha158, h⟩ := zlt_e h
  obtain ⟨M159, hM159, h⟩ := zlt_e h
  obtain ⟨L160, hL160, h⟩ := zlt_e h
  obtain ⟨K161, hK161, h⟩ := zlt_e h
  refine rn_newaE (at_ := .int) ha158 hM159 hL160 hK161 zqa_int rfl (by decide) (Or.inl ⟨rfl, rfl⟩) zd_X12_init_6.2.2.2.2 ?_
  obtain ⟨R162, hR162, h⟩ := zlt_e h
  obtain ⟨hn163, h⟩ := zck_e h
  refine rn_putR hR162 (zbne hn163) (Or.inr ⟨_, rfl⟩) (fun _ => ⟨rfl, rfl⟩) zf_X12_98 (zkl hK161 (zkl hK155 (zkl hK149 (zkl hK143 (zkl hK137 (zkl hK131 (zkl hK125 (zkl hK119 (zkl hK113 (zkl hK107 (zkl hK101 (zkl hK95 (zkl hK89 (zkl hK83 (zkl hK77 (zkl hK71 (zkl hK65 (zkl hK59 (zkl hK53 (zkl hK47 (zkl hK40 (zkl hK34 (zkl hK28 (zkl hK22 (zkl hK16 (zkl hK10 (zkl hK4 k_a0))))))))))))))))))))))))))) zd_X12_init_7.1.1.1.1 ?_
  refine rn_aload_n (q := 0) 0 rfl zd_X12_init_7.1.1.1.2 ?_
  refine rn_bipush (v := 60) zd_X12_init_7.1.1.2.1 rfl ?_
  obtain ⟨a164, ha164, h⟩ := zlt_e h
  obtain ⟨M165, hM165, h⟩ := zlt_e h
  obtain ⟨L166, hL166, h⟩ := zlt_e h
  obtain ⟨K167, hK167, h⟩ := zlt_e h
  refine rn_newaE (at_ := .int) ha164 hM165 hL166 hK167 zqa_int rfl (by decide) (Or.inl ⟨rfl, rfl⟩) zd_X12_init_7.1.1.2.2 ?_
  obtain ⟨R168, hR168, h⟩ := zlt_e h
  obtain ⟨hn169, h⟩ := zck_e h
  refine rn_putR hR168 (zbne hn169) (Or.inr ⟨_, rfl⟩) (fun _ => ⟨rfl, rfl⟩) zf_X12_101 (zkl hK167 (zkl hK161 (zkl hK155 (zkl hK149 (zkl hK143 (zkl hK137 (zkl hK131 (zkl hK125 (zkl hK119 (zkl hK113 (zkl hK107 (zkl hK101 (zkl hK95 (zkl hK89 (zkl hK83 (zkl hK77 (zkl hK71 (zkl hK65 (zkl hK59 (zkl hK53 (zkl hK47 (zkl hK40 (zkl hK34 (zkl hK28 (zkl hK22 (zkl hK16 (zkl hK10 (zkl hK4 k_a0)))))))))))))))))))))))))))) zd_X12_init_7.1.2.1.1 ?_
  refine rn_aload_n (q := 0) 0 rfl zd_X12_init_7.1.2.1.2 ?_
  refine rn_bipush (v := 60) zd_X12_init_7.1.2.2.1 rfl ?_
  obtain ⟨a170, ha170, h⟩ := zlt_e h
  obtain ⟨M171, hM171, h⟩ := zlt_e h
  obtain ⟨L172, hL172, h⟩ := zlt_e h
  obtain ⟨K173, hK173, h⟩ := zlt_e h
  refine rn_newaE (at_ := .int) ha170 hM171 hL172 hK173 zqa_int rfl (by decide) (Or.inl ⟨rfl, rfl⟩) zd_X12_init_7.1.2.2.2 ?_
  obtain ⟨R174, hR174, h⟩ := zlt_e h
  obtain ⟨hn175, h⟩ := zck_e h
  refine rn_putR hR174 (zbne hn175) (Or.inr ⟨_, rfl⟩) (fun _ => ⟨rfl, rfl⟩) zf_X12_104 (zkl hK173 (zkl hK167 (zkl hK161 (zkl hK155 (zkl hK149 (zkl hK143 (zkl hK137 (zkl hK131 (zkl hK125 (zkl hK119 (zkl hK113 (zkl hK107 (zkl hK101 (zkl hK95 (zkl hK89 (zkl hK83 (zkl hK77 (zkl hK71 (zkl hK65 (zkl hK59 (zkl hK53 (zkl hK47 (zkl hK40 (zkl hK34 (zkl hK28 (zkl hK22 (zkl hK16 (zkl hK10 (zkl hK4 k_a0))))))))))))))))))))))))))))) zd_X12_init_7.2.1.1.1 ?_
  refine rn_aload_n (q := 0) 0 rfl zd_X12_init_7.2.1.1.2 ?_
  refine rn_bipush (v := 10) zd_X12_init_7.2.1.2.1 rfl ?_
  obtain ⟨a176, ha176, h⟩ := zlt_e h
  obtain ⟨M177, hM177, h⟩ := zlt_e h
  obtain ⟨L178, hL178, h⟩ := zlt_e h
  obtain ⟨K179, hK179, h⟩ := zlt_e h
  refine rn_newaE (at_ := .int) ha176 hM177 hL178 hK179 zqa_int rfl (by decide) (Or.inl ⟨rfl, rfl⟩) zd_X12_init_7.2.1.2.2 ?_
  obtain ⟨R180, hR180, h⟩ := zlt_e h
  obtain ⟨hn181, h⟩ := zck_e h
  refine rn_putR hR180 (zbne hn181) (Or.inr ⟨_, rfl⟩) (fun _ => ⟨rfl, rfl⟩) zf_X12_107 (zkl hK179 (zkl hK173 (zkl hK167 (zkl hK161 (zkl hK155 (zkl hK149 (zkl hK143 (zkl hK137 (zkl hK131 (zkl hK125 (zkl hK119 (zkl hK113 (zkl hK107 (zkl hK101 (zkl hK95 (zkl hK89 (zkl hK83 (zkl hK77 (zkl hK71 (zkl hK65 (zkl hK59 (zkl hK53 (zkl hK47 (zkl hK40 (zkl hK34 (zkl hK28 (zkl hK22 (zkl hK16 (zkl hK10 (zkl hK4 k_a0)))))))))))))))))))))))))))))) zd_X12_init_7.2.2.1.1 ?_
  refine rn_aload_n (q := 0) 0 rfl zd_X12_init_7.2.2.1.2 ?_
  refine rn_sipush (v := 1800) zd_X12_init_7.2.2.2.1 rfl ?_
  obtain ⟨a182, ha182, h⟩ := zlt_e h
  obtain ⟨M183, hM183, h⟩ := zlt_e h
  obtain ⟨L184, hL184, h⟩ := zlt_e h
  obtain ⟨K185, hK185, h⟩ := zlt_e h
  refine rn_newaE (at_ := .int) ha182 hM183 hL184 hK185 zqa_int rfl (by decide) (Or.inl ⟨rfl, rfl⟩) zd_X12_init_7.2.2.2.2 ?_
  obtain ⟨R186, hR186, h⟩ := zlt_e h
  obtain ⟨hn187, h⟩ := zck_e h
  refine rn_putR hR186 (zbne hn187) (Or.inr ⟨_, rfl⟩) (fun _ => ⟨rfl, rfl⟩) zf_X12_110 (zkl hK185 (zkl hK179 (zkl hK173 (zkl hK167 (zkl hK161 (zkl hK155 (zkl hK149 (zkl hK143 (zkl hK137 (zkl hK131 (zkl hK125 (zkl hK119 (zkl hK113 (zkl hK107 (zkl hK101 (zkl hK95 (zkl hK89 (zkl hK83 (zkl hK77 (zkl hK71 (zkl hK65 (zkl hK59 (zkl hK53 (zkl hK47 (zkl hK40 (zkl hK34 (zkl hK28 (zkl hK22 (zkl hK16 (zkl hK10 (zkl hK4 k_a0))))))))))))))))))))))))))))))) zd_X12_init_8.1.1.1.1 ?_
  refine rn_aload_n (q := 0) 0 rfl zd_X12_init_8.1.1.1.2 ?_
  refine rn_sipush (v := 6321) zd_X12_init_8.1.1.2.1 rfl ?_
  obtain ⟨a188, ha188, h⟩ := zlt_e h
  obtain ⟨M189, hM189, h⟩ := zlt_e h
  obtain ⟨L190, hL190, h⟩ := zlt_e h
  obtain ⟨K191, hK191, h⟩ := zlt_e h
  refine rn_newaE (at_ := .int) ha188 hM189 hL190 hK191 zqa_int rfl (by decide) (Or.inl ⟨rfl, rfl⟩) zd_X12_init_8.1.1.2.2 ?_
  obtain ⟨R192, hR192, h⟩ := zlt_e h
  obtain ⟨hn193, h⟩ := zck_e h
  refine rn_putR hR192 (zbne hn193) (Or.inr ⟨_, rfl⟩) (fun _ => ⟨rfl, rfl⟩) zf_X12_113 (zkl hK191 (zkl hK185 (zkl hK179 (zkl hK173 (zkl hK167 (zkl hK161 (zkl hK155 (zkl hK149 (zkl hK143 (zkl hK137 (zkl hK131 (zkl hK125 (zkl hK119 (zkl hK113 (zkl hK107 (zkl hK101 (zkl hK95 (zkl hK89 (zkl hK83 (zkl hK77 (zkl hK71 (zkl hK65 (zkl hK59 (zkl hK53 (zkl hK47 (zkl hK40 (zkl hK34 (zkl hK28 (zkl hK22 (zkl hK16 (zkl hK10 (zkl hK4 k_a0)))))))))))))))))))))))))))))))) zd_X12_init_8.1.2.1.1 ?_
  refine rn_aload_n (q := 0) 0 rfl zd_X12_init_8.1.2.1.2 ?_
  refine rn_sipush (v := 2560) zd_X12_init_8.1.2.2.1 rfl ?_
  obtain ⟨a194, ha194, h⟩ := zlt_e h
  obtain ⟨M195, hM195, h⟩ := zlt_e h
  obtain ⟨L196, hL196, h⟩ := zlt_e h
  obtain ⟨K197, hK197, h⟩ := zlt_e h
  refine rn_newaE (at_ := .int) ha194 hM195 hL196 hK197 zqa_int rfl (by decide) (Or.inl ⟨rfl, rfl⟩) zd_X12_init_8.1.2.2.2 ?_
  obtain ⟨R198, hR198, h⟩ := zlt_e h
  obtain ⟨hn199, h⟩ := zck_e h
  refine rn_putR hR198 (zbne hn199) (Or.inr ⟨_, rfl⟩) (fun _ => ⟨rfl, rfl⟩) zf_X12_116 (zkl hK197 (zkl hK191 (zkl hK185 (zkl hK179 (zkl hK173 (zkl hK167 (zkl hK161 (zkl hK155 (zkl hK149 (zkl hK143 (zkl hK137 (zkl hK131 (zkl hK125 (zkl hK119 (zkl hK113 (zkl hK107 (zkl hK101 (zkl hK95 (zkl hK89 (zkl hK83 (zkl hK77 (zkl hK71 (zkl hK65 (zkl hK59 (zkl hK53 (zkl hK47 (zkl hK40 (zkl hK34 (zkl hK28 (zkl hK22 (zkl hK16 (zkl hK10 (zkl hK4 k_a0))))))))))))))))))))))))))))))))) zd_X12_init_8.2.1.1.1 ?_
  refine rn_aload_n (q := 0) 0 rfl zd_X12_init_8.2.1.1.2 ?_
  refine rn_bipush (v := 20) zd_X12_init_8.2.1.2.1 rfl ?_
  obtain ⟨a200, ha200, h⟩ := zlt_e h
  obtain ⟨M201, hM201, h⟩ := zlt_e h
  obtain ⟨L202, hL202, h⟩ := zlt_e h
  obtain ⟨K203, hK203, h⟩ := zlt_e h
  refine rn_newaE (at_ := .int) ha200 hM201 hL202 hK203 zqa_int rfl (by decide) (Or.inl ⟨rfl, rfl⟩) zd_X12_init_8.2.1.2.2 ?_
  obtain ⟨R204, hR204, h⟩ := zlt_e h
  obtain ⟨hn205, h⟩ := zck_e h
  refine rn_putR hR204 (zbne hn205) (Or.inr ⟨_, rfl⟩) (fun _ => ⟨rfl, rfl⟩) zf_X12_119 (zkl hK203 (zkl hK197 (zkl hK191 (zkl hK185 (zkl hK179 (zkl hK173 (zkl hK167 (zkl hK161 (zkl hK155 (zkl hK149 (zkl hK143 (zkl hK137 (zkl hK131 (zkl hK125 (zkl hK119 (zkl hK113 (zkl hK107 (zkl hK101 (zkl hK95 (zkl hK89 (zkl hK83 (zkl hK77 (zkl hK71 (zkl hK65 (zkl hK59 (zkl hK53 (zkl hK47 (zkl hK40 (zkl hK34 (zkl hK28 (zkl hK22 (zkl hK16 (zkl hK10 (zkl hK4 k_a0)))))))))))))))))))))))))))))))))) zd_X12_init_8.2.2.1.1 ?_
  refine rn_aload_n (q := 0) 0 rfl zd_X12_init_8.2.2.1.2 ?_
  refine rn_bipush (v := 20) zd_X12_init_8.2.2.2.1 rfl ?_
  obtain ⟨a206, ha206, h⟩ := zlt_e h
  obtain ⟨M207, hM207, h⟩ := zlt_e h
  obtain ⟨L208, hL208, h⟩ := zlt_e h
  obtain ⟨K209, hK209, h⟩ := zlt_e h
  refine rn_newaE (at_ := .int) ha206 hM207 hL208 hK209 zqa_int rfl (by decide) (Or.inl ⟨rfl, rfl⟩) zd_X12_init_8.2.2.2.2 ?_
  obtain ⟨R210, hR210, h⟩ := zlt_e h
  obtain ⟨hn211, h⟩ := zck_e h
  refine rn_putR hR210 (zbne hn211) (Or.inr ⟨_, rfl⟩) (fun _ => ⟨rfl, rfl⟩) zf_X12_122 (zkl hK209 (zkl hK203 (zkl hK197 (zkl hK191 (zkl hK185 (zkl hK179 (zkl hK173 (zkl hK167 (zkl hK161 (zkl hK155 (zkl hK149 (zkl hK143 (zkl hK137 (zkl hK131 (zkl hK125 (zkl hK119 (zkl hK113 (zkl hK107 (zkl hK101 (zkl hK95 (zkl hK89 (zkl hK83 (zkl hK77 (zkl hK71 (zkl hK65 (zkl hK59 (zkl hK53 (zkl hK47 (zkl hK40 (zkl hK34 (zkl hK28 (zkl hK22 (zkl hK16 (zkl hK10 (zkl hK4 k_a0))))))))))))))))))))))))))))))))))) zd_X12_init_9.1.1.1.1 ?_
  refine rn_aload_n (q := 0) 0 rfl zd_X12_init_9.1.1.1.2 ?_
  refine rn_bipush (v := 10) zd_X12_init_9.1.1.2.1 rfl ?_
  obtain ⟨a212, ha212, h⟩ := zlt_e h
  obtain ⟨M213, hM213, h⟩ := zlt_e h
  obtain ⟨L214, hL214, h⟩ := zlt_e h
  obtain ⟨K215, hK215, h⟩ := zlt_e h
  refine rn_newaE (at_ := .int) ha212 hM213 hL214 hK215 zqa_int rfl (by decide) (Or.inl ⟨rfl, rfl⟩) zd_X12_init_9.1.1.2.2 ?_
  obtain ⟨R216, hR216, h⟩ := zlt_e h
  obtain ⟨hn217, h⟩ := zck_e h
  refine rn_putR hR216 (zbne hn217) (Or.inr ⟨_, rfl⟩) (fun _ => ⟨rfl, rfl⟩) zf_X12_125 (zkl hK215 (zkl hK209 (zkl hK203 (zkl hK197 (zkl hK191 (zkl hK185 (zkl hK179 (zkl hK173 (zkl hK167 (zkl hK161 (zkl hK155 (zkl hK149 (zkl hK143 (zkl hK137 (zkl hK131 (zkl hK125 (zkl hK119 (zkl hK113 (zkl hK107 (zkl hK101 (zkl hK95 (zkl hK89 (zkl hK83 (zkl hK77 (zkl hK71 (zkl hK65 (zkl hK59 (zkl hK53 (zkl hK47 (zkl hK40 (zkl hK34 (zkl hK28 (zkl hK22 (zkl hK16 (zkl hK10 (zkl hK4 k_a0)))))))))))))))))))))))))))))))))))) zd_X12_init_9.1.2.1.1 ?_
  refine rn_aload_n (q := 0) 0 rfl zd_X12_init_9.1.2.1.2 ?_
  refine rn_bipush (v := 10) zd_X12_init_9.1.2.2.1 rfl ?_
  obtain ⟨a218, ha218, h⟩ := zlt_e h
  obtain ⟨M219, hM219, h⟩ := zlt_e h
  obtain ⟨L220, hL220, h⟩ := zlt_e h
  obtain ⟨K221, hK221, h⟩ := zlt_e h
  refine rn_newaE (at_ := .int) ha218 hM219 hL220 hK221 zqa_int rfl (by decide) (Or.inl ⟨rfl, rfl⟩) zd_X12_init_9.1.2.2.2 ?_
  obtain ⟨R222, hR222, h⟩ := zlt_e h
  obtain ⟨hn223, h⟩ := zck_e h
  refine rn_putR hR222 (zbne hn223) (Or.inr ⟨_, rfl⟩) (fun _ => ⟨rfl, rfl⟩) zf_X12_128 (zkl hK221 (zkl hK215 (zkl hK209 (zkl hK203 (zkl hK197 (zkl hK191 (zkl hK185 (zkl hK179 (zkl hK173 (zkl hK167 (zkl hK161 (zkl hK155 (zkl hK149 (zkl hK143 (zkl hK137 (zkl hK131 (zkl hK125 (zkl hK119 (zkl hK113 (zkl hK107 (zkl hK101 (zkl hK95 (zkl hK89 (zkl hK83 (zkl hK77 (zkl hK71 (zkl hK65 (zkl hK59 (zkl hK53 (zkl hK47 (zkl hK40 (zkl hK34 (zkl hK28 (zkl hK22 (zkl hK16 (zkl hK10 (zkl hK4 k_a0))))))))))))))))))))))))))))))))))))) zd_X12_init_9.2.1.1.1 ?_
  refine rn_aload_n (q := 0) 0 rfl zd_X12_init_9.2.1.1.2 ?_
  refine rn_bipush (v := 10) zd_X12_init_9.2.1.2.1 rfl ?_
  obtain ⟨a224, ha224, h⟩ := zlt_e h
  obtain ⟨M225, hM225, h⟩ := zlt_e h
  obtain ⟨L226, hL226, h⟩ := zlt_e h
  obtain ⟨K227, hK227, h⟩ := zlt_e h
  refine rn_newaE (at_ := .int) ha224 hM225 hL226 hK227 zqa_int rfl (by decide) (Or.inl ⟨rfl, rfl⟩) zd_X12_init_9.2.1.2.2 ?_
  obtain ⟨R228, hR228, h⟩ := zlt_e h
  obtain ⟨hn229, h⟩ := zck_e h
  refine rn_putR hR228 (zbne hn229) (Or.inr ⟨_, rfl⟩) (fun _ => ⟨rfl, rfl⟩) zf_X12_131 (zkl hK227 (zkl hK221 (zkl hK215 (zkl hK209 (zkl hK203 (zkl hK197 (zkl hK191 (zkl hK185 (zkl hK179 (zkl hK173 (zkl hK167 (zkl hK161 (zkl hK155 (zkl hK149 (zkl hK143 (zkl hK137 (zkl hK131 (zkl hK125 (zkl hK119 (zkl hK113 (zkl hK107 (zkl hK101 (zkl hK95 (zkl hK89 (zkl hK83 (zkl hK77 (zkl hK71 (zkl hK65 (zkl hK59 (zkl hK53 (zkl hK47 (zkl hK40 (zkl hK34 (zkl hK28 (zkl hK22 (zkl hK16 (zkl hK10 (zkl hK4 k_a0)))))))))))))))))))))))))))))))))))))) zd_X12_init_9.2.2.1.1 ?_
  refine rn_aload_n (q := 0) 0 rfl zd_X12_init_9.2.2.1.2 ?_
  refine rn_iconst (v := 3) zd_X12_init_9.2.2.2.1 rfl ?_
  obtain ⟨a230, ha230, h⟩ := zlt_e h
  obtain ⟨M231, hM231, h⟩ := zlt_e h
  obtain ⟨L232, hL232, h⟩ := zlt_e h
  obtain ⟨K233, hK233, h⟩ := zlt_e h
  refine rn_newaE (at_ := .boolean) ha230 hM231 hL232 hK233 zqa_boolean rfl (by decide) (Or.inr (Or.inr (Or.inl ⟨rfl, rfl⟩))) zd_X12_init_9.2.2.2.2 ?_
  obtain ⟨R234, hR234, h⟩ := zlt_e h
  obtain ⟨hn235, h⟩ := zck_e h
  refine rn_putR hR234 (zbne hn235) (Or.inr ⟨_, rfl⟩) (fun _ => ⟨rfl, rfl⟩) zf_X12_134 (zkl hK233 (zkl hK227 (zkl hK221 (zkl hK215 (zkl hK209 (zkl hK203 (zkl hK197 (zkl hK191 (zkl hK185 (zkl hK179 (zkl hK173 (zkl hK167 (zkl hK161 (zkl hK155 (zkl hK149 (zkl hK143 (zkl hK137 (zkl hK131 (zkl hK125 (zkl hK119 (zkl hK113 (zkl hK107 (zkl hK101 (zkl hK95 (zkl hK89 (zkl hK83 (zkl hK77 (zkl hK71 (zkl hK65 (zkl hK59 (zkl hK53 (zkl hK47 (zkl hK40 (zkl hK34 (zkl hK28 (zkl hK22 (zkl hK16 (zkl hK10 (zkl hK4 k_a0))))))))))))))))))))))))))))))))))))))) zd_X12_init_10.1.1.1.1 ?_
  refine rn_aload_n (q := 0) 0 rfl zd_X12_init_10.1.1.1.2 ?_
  refine rn_sipush (v := 180) zd_X12_init_10.1.1.2.1 rfl ?_
  obtain ⟨a236, ha236, h⟩ := zlt_e h
  obtain ⟨M237, hM237, h⟩ := zlt_e h
  obtain ⟨L238, hL238, h⟩ := zlt_e h
  obtain ⟨K239, hK239, h⟩ := zlt_e h
  refine rn_newaE (at_ := .int) ha236 hM237 hL238 hK239 zqa_int rfl (by decide) (Or.inl ⟨rfl, rfl⟩) zd_X12_init_10.1.1.2.2 ?_
  obtain ⟨R240, hR240, h⟩ := zlt_e h
  obtain ⟨hn241, h⟩ := zck_e h
  refine rn_putR hR240 (zbne hn241) (Or.inr ⟨_, rfl⟩) (fun _ => ⟨rfl, rfl⟩) zf_X12_137 (zkl hK239 (zkl hK233 (zkl hK227 (zkl hK221 (zkl hK215 (zkl hK209 (zkl hK203 (zkl hK197 (zkl hK191 (zkl hK185 (zkl hK179 (zkl hK173 (zkl hK167 (zkl hK161 (zkl hK155 (zkl hK149 (zkl hK143 (zkl hK137 (zkl hK131 (zkl hK125 (zkl hK119 (zkl hK113 (zkl hK107 (zkl hK101 (zkl hK95 (zkl hK89 (zkl hK83 (zkl hK77 (zkl hK71 (zkl hK65 (zkl hK59 (zkl hK53 (zkl hK47 (zkl hK40 (zkl hK34 (zkl hK28 (zkl hK22 (zkl hK16 (zkl hK10 (zkl hK4 k_a0)))))))))))))))))))))))))))))))))))))))) zd_X12_init_10.1.2.1.1 ?_
  refine rn_aload_n (q := 0) 0 rfl zd_X12_init_10.1.2.1.2 ?_
  obtain ⟨hz242z, hz242, h⟩ := zkk_e h
  refine rn_getR zf_X12_59 (Or.inr ⟨_, rfl⟩) (zkl hK239 (zkl hK233 (zkl hK227 (zkl hK221 (zkl hK215 (zkl hK209 (zkl hK203 (zkl hK197 (zkl hK191 (zkl hK185 (zkl hK179 (zkl hK173 (zkl hK167 (zkl hK161 (zkl hK155 (zkl hK149 (zkl hK143 (zkl hK137 (zkl hK131 (zkl hK125 (zkl hK119 (zkl hK113 (zkl hK107 (zkl hK101 (zkl hK95 (zkl hK89 (zkl hK83 (zkl hK77 (zkl hK71 (zkl hK65 (zkl hK59 (zkl hK53 (zkl hK47 (zkl hK40 (zkl hK34 (zkl hK28 (zkl hK22 (zkl hK16 (zkl hK10 (zkl hK4 k_a0)))))))))))))))))))))))))))))))))))))))) hz242z zd_X12_init_10.1.2.2.1 ?_
  refine rn_iconst (v := 0) zd_X12_init_10.1.2.2.2 rfl ?_
  refine rn_bipush (v := 7) zd_X12_init_10.2.1.1.1 rfl ?_
  obtain ⟨M243, hM243, h⟩ := zlt_e h
  refine rn_iast hM243 hz242 (by decide) zd_X12_init_10.2.1.1.2 ?_
  refine rn_aload_n (q := 0) 0 rfl zd_X12_init_10.2.1.2.1 ?_
  obtain ⟨hz244z, hz244, h⟩ := zkk_e h
  refine rn_getR zf_X12_34 (Or.inr ⟨_, rfl⟩) (zkl hK239 (zkl hK233 (zkl hK227 (zkl hK221 (zkl hK215 (zkl hK209 (zkl hK203 (zkl hK197 (zkl hK191 (zkl hK185 (zkl hK179 (zkl hK173 (zkl hK167 (zkl hK161 (zkl hK155 (zkl hK149 (zkl hK143 (zkl hK137 (zkl hK131 (zkl hK125 (zkl hK119 (zkl hK113 (zkl hK107 (zkl hK101 (zkl hK95 (zkl hK89 (zkl hK83 (zkl hK77 (zkl hK71 (zkl hK65 (zkl hK59 (zkl hK53 (zkl hK47 (zkl hK40 (zkl hK34 (zkl hK28 (zkl hK22 (zkl hK16 (zkl hK10 (zkl hK4 k_a0)))))))))))))))))))))))))))))))))))))))) hz244z zd_X12_init_10.2.1.2.2 ?_
  refine rn_iconst (v := 0) zd_X12_init_10.2.2.1.1 rfl ?_
  refine rn_bipush (v := 104) zd_X12_init_10.2.2.1.2 rfl ?_
  refine rn_bipush (v := 111) zd_X12_init_10.2.2.2.1 rfl ?_
  refine rn_bipush (v := 117) zd_X12_init_10.2.2.2.2 rfl ?_
  refine rn_bipush (v := 115) zd_X12_init_11.1.1.1.1 rfl ?_
  refine rn_bipush (v := 101) zd_X12_init_11.1.1.1.2 rfl ?_
  refine rn_iconst (v := 0) zd_X12_init_11.1.1.2.1 rfl ?_
  refine rn_iconst (v := 0) zd_X12_init_11.1.1.2.2 rfl ?_
  obtain ⟨r245, h246, h⟩ := zbd_e h
  refine rn_callSl (As := [.int (104 : Int32), .int (111 : Int32), .int (117 : Int32), .int (115 : Int32), .int (101 : Int32), .int (0 : Int32), .int (0 : Int32)]) (rest := [.int (0 : Int32), .ref (R240 a0 9)]) zl_X12_140 zm_X12_word ⟨by decide, by decide⟩ rfl rfl (Nat.le_of_ble_eq_true rfl) zd_X12_init_11.1.2.1.1 (ok_X12_word_g h246) ?_
  obtain ⟨L247, hL247, h⟩ := zlt_e h
  refine rn_last hL247 hz244 (by decide) zd_X12_init_11.1.2.1.2 ?_
  refine rn_aload_n (q := 0) 0 rfl zd_X12_init_11.1.2.2.1 ?_
  obtain ⟨hz248z, hz248, h⟩ := zkk_e h
  refine rn_getR zf_X12_34 (Or.inr ⟨_, rfl⟩) (zkl hK239 (zkl hK233 (zkl hK227 (zkl hK221 (zkl hK215 (zkl hK209 (zkl hK203 (zkl hK197 (zkl hK191 (zkl hK185 (zkl hK179 (zkl hK173 (zkl hK167 (zkl hK161 (zkl hK155 (zkl hK149 (zkl hK143 (zkl hK137 (zkl hK131 (zkl hK125 (zkl hK119 (zkl hK113 (zkl hK107 (zkl hK101 (zkl hK95 (zkl hK89 (zkl hK83 (zkl hK77 (zkl hK71 (zkl hK65 (zkl hK59 (zkl hK53 (zkl hK47 (zkl hK40 (zkl hK34 (zkl hK28 (zkl hK22 (zkl hK16 (zkl hK10 (zkl hK4 k_a0)))))))))))))))))))))))))))))))))))))))) hz248z zd_X12_init_11.1.2.2.2 ?_
  refine rn_iconst (v := 1) zd_X12_init_11.2.1.1.1 rfl ?_
  refine rn_bipush (v := 115) zd_X12_init_11.2.1.1.2 rfl ?_
  refine rn_bipush (v := 116) zd_X12_init_11.2.1.2.1 rfl ?_
  refine rn_bipush (v := 114) zd_X12_init_11.2.1.2.2 rfl ?_
  refine rn_bipush (v := 101) zd_X12_init_11.2.2.1.1 rfl ?_
  refine rn_bipush (v := 101) zd_X12_init_11.2.2.1.2 rfl ?_
  refine rn_bipush (v := 116) zd_X12_init_11.2.2.2.1 rfl ?_
  refine rn_iconst (v := 0) zd_X12_init_11.2.2.2.2 rfl ?_
  obtain ⟨r249, h250, h⟩ := zbd_e h
  refine rn_callSl (As := [.int (115 : Int32), .int (116 : Int32), .int (114 : Int32), .int (101 : Int32), .int (101 : Int32), .int (116 : Int32), .int (0 : Int32)]) (rest := [.int (1 : Int32), .ref (R240 a0 9)]) zl_X12_140 zm_X12_word ⟨by decide, by decide⟩ rfl rfl (Nat.le_of_ble_eq_true rfl) zd_X12_init_12.1.1.1.1 (ok_X12_word_g h250) ?_
  obtain ⟨L251, hL251, h⟩ := zlt_e h
  refine rn_last hL251 hz248 (by decide) zd_X12_init_12.1.1.1.2 ?_
  refine rn_aload_n (q := 0) 0 rfl zd_X12_init_12.1.1.2.1 ?_
  obtain ⟨hz252z, hz252, h⟩ := zkk_e h
  refine rn_getR zf_X12_34 (Or.inr ⟨_, rfl⟩) (zkl hK239 (zkl hK233 (zkl hK227 (zkl hK221 (zkl hK215 (zkl hK209 (zkl hK203 (zkl hK197 (zkl hK191 (zkl hK185 (zkl hK179 (zkl hK173 (zkl hK167 (zkl hK161 (zkl hK155 (zkl hK149 (zkl hK143 (zkl hK137 (zkl hK131 (zkl hK125 (zkl hK119 (zkl hK113 (zkl hK107 (zkl hK101 (zkl hK95 (zkl hK89 (zkl hK83 (zkl hK77 (zkl hK71 (zkl hK65 (zkl hK59 (zkl hK53 (zkl hK47 (zkl hK40 (zkl hK34 (zkl hK28 (zkl hK22 (zkl hK16 (zkl hK10 (zkl hK4 k_a0)))))))))))))))))))))))))))))))))))))))) hz252z zd_X12_init_12.1.1.2.2 ?_
  refine rn_iconst (v := 2) zd_X12_init_12.1.2.1.1 rfl ?_
  refine rn_bipush (v := 116) zd_X12_init_12.1.2.1.2 rfl ?_
  refine rn_bipush (v := 117) zd_X12_init_12.1.2.2.1 rfl ?_
  refine rn_bipush (v := 114) zd_X12_init_12.1.2.2.2 rfl ?_
  refine rn_bipush (v := 110) zd_X12_init_12.2.1.1.1 rfl ?_
  refine rn_bipush (v := 115) zd_X12_init_12.2.1.1.2 rfl ?_
  refine rn_iconst (v := 0) zd_X12_init_12.2.1.2.1 rfl ?_
  refine rn_iconst (v := 0) zd_X12_init_12.2.1.2.2 rfl ?_
  obtain ⟨r253, h254, h⟩ := zbd_e h
  refine rn_callSl (As := [.int (116 : Int32), .int (117 : Int32), .int (114 : Int32), .int (110 : Int32), .int (115 : Int32), .int (0 : Int32), .int (0 : Int32)]) (rest := [.int (2 : Int32), .ref (R240 a0 9)]) zl_X12_140 zm_X12_word ⟨by decide, by decide⟩ rfl rfl (Nat.le_of_ble_eq_true rfl) zd_X12_init_12.2.2.1.1 (ok_X12_word_g h254) ?_
  obtain ⟨L255, hL255, h⟩ := zlt_e h
  refine rn_last hL255 hz252 (by decide) zd_X12_init_12.2.2.1.2 ?_
  refine rn_aload_n (q := 0) 0 rfl zd_X12_init_12.2.2.2.1 ?_
  obtain ⟨hz256z, hz256, h⟩ := zkk_e h
  refine rn_getR zf_X12_34 (Or.inr ⟨_, rfl⟩) (zkl hK239 (zkl hK233 (zkl hK227 (zkl hK221 (zkl hK215 (zkl hK209 (zkl hK203 (zkl hK197 (zkl hK191 (zkl hK185 (zkl hK179 (zkl hK173 (zkl hK167 (zkl hK161 (zkl hK155 (zkl hK149 (zkl hK143 (zkl hK137 (zkl hK131 (zkl hK125 (zkl hK119 (zkl hK113 (zkl hK107 (zkl hK101 (zkl hK95 (zkl hK89 (zkl hK83 (zkl hK77 (zkl hK71 (zkl hK65 (zkl hK59 (zkl hK53 (zkl hK47 (zkl hK40 (zkl hK34 (zkl hK28 (zkl hK22 (zkl hK16 (zkl hK10 (zkl hK4 k_a0)))))))))))))))))))))))))))))))))))))))) hz256z zd_X12_init_12.2.2.2.2 ?_
  refine rn_iconst (v := 3) zd_X12_init_13.1.1.1.1 rfl ?_
  refine rn_bipush (v := 112) zd_X12_init_13.1.1.1.2 rfl ?_
  refine rn_bipush (v := 97) zd_X12_init_13.1.1.2.1 rfl ?_
  refine rn_bipush (v := 121) zd_X12_init_13.1.1.2.2 rfl ?_
  refine rn_bipush (v := 115) zd_X12_init_13.1.2.1.1 rfl ?_
  refine rn_iconst (v := 0) zd_X12_init_13.1.2.1.2 rfl ?_
  refine rn_iconst (v := 0) zd_X12_init_13.1.2.2.1 rfl ?_
  refine rn_iconst (v := 0) zd_X12_init_13.1.2.2.2 rfl ?_
  obtain ⟨r257, h258, h⟩ := zbd_e h
  refine rn_callSl (As := [.int (112 : Int32), .int (97 : Int32), .int (121 : Int32), .int (115 : Int32), .int (0 : Int32), .int (0 : Int32), .int (0 : Int32)]) (rest := [.int (3 : Int32), .ref (R240 a0 9)]) zl_X12_140 zm_X12_word ⟨by decide, by decide⟩ rfl rfl (Nat.le_of_ble_eq_true rfl) zd_X12_init_13.2.1.1.1 (ok_X12_word_g h258) ?_
  obtain ⟨L259, hL259, h⟩ := zlt_e h
  refine rn_last hL259 hz256 (by decide) zd_X12_init_13.2.1.1.2 ?_
  refine rn_aload_n (q := 0) 0 rfl zd_X12_init_13.2.1.2.1 ?_
  obtain ⟨hz260z, hz260, h⟩ := zkk_e h
  refine rn_getR zf_X12_34 (Or.inr ⟨_, rfl⟩) (zkl hK239 (zkl hK233 (zkl hK227 (zkl hK221 (zkl hK215 (zkl hK209 (zkl hK203 (zkl hK197 (zkl hK191 (zkl hK185 (zkl hK179 (zkl hK173 (zkl hK167 (zkl hK161 (zkl hK155 (zkl hK149 (zkl hK143 (zkl hK137 (zkl hK131 (zkl hK125 (zkl hK119 (zkl hK113 (zkl hK107 (zkl hK101 (zkl hK95 (zkl hK89 (zkl hK83 (zkl hK77 (zkl hK71 (zkl hK65 (zkl hK59 (zkl hK53 (zkl hK47 (zkl hK40 (zkl hK34 (zkl hK28 (zkl hK22 (zkl hK16 (zkl hK10 (zkl hK4 k_a0)))))))))))))))))))))))))))))))))))))))) hz260z zd_X12_init_13.2.1.2.2 ?_
  refine rn_iconst (v := 4) zd_X12_init_13.2.2.1.1 rfl ?_
  refine rn_bipush (v := 101) zd_X12_init_13.2.2.1.2 rfl ?_
  refine rn_bipush (v := 97) zd_X12_init_13.2.2.2.1 rfl ?_
  refine rn_bipush (v := 114) zd_X12_init_13.2.2.2.2 rfl ?_
  refine rn_bipush (v := 110) zd_X12_init_14.1.1.1.1 rfl ?_
  refine rn_bipush (v := 115) zd_X12_init_14.1.1.1.2 rfl ?_
  refine rn_iconst (v := 0) zd_X12_init_14.1.1.2.1 rfl ?_
  refine rn_iconst (v := 0) zd_X12_init_14.1.1.2.2 rfl ?_
  obtain ⟨r261, h262, h⟩ := zbd_e h
  refine rn_callSl (As := [.int (101 : Int32), .int (97 : Int32), .int (114 : Int32), .int (110 : Int32), .int (115 : Int32), .int (0 : Int32), .int (0 : Int32)]) (rest := [.int (4 : Int32), .ref (R240 a0 9)]) zl_X12_140 zm_X12_word ⟨by decide, by decide⟩ rfl rfl (Nat.le_of_ble_eq_true rfl) zd_X12_init_14.1.2.1.1 (ok_X12_word_g h262) ?_
  obtain ⟨L263, hL263, h⟩ := zlt_e h
  refine rn_last hL263 hz260 (by decide) zd_X12_init_14.1.2.1.2 ?_
  refine rn_aload_n (q := 0) 0 rfl zd_X12_init_14.1.2.2.1 ?_
  obtain ⟨hz264z, hz264, h⟩ := zkk_e h
  refine rn_getR zf_X12_34 (Or.inr ⟨_, rfl⟩) (zkl hK239 (zkl hK233 (zkl hK227 (zkl hK221 (zkl hK215 (zkl hK209 (zkl hK203 (zkl hK197 (zkl hK191 (zkl hK185 (zkl hK179 (zkl hK173 (zkl hK167 (zkl hK161 (zkl hK155 (zkl hK149 (zkl hK143 (zkl hK137 (zkl hK131 (zkl hK125 (zkl hK119 (zkl hK113 (zkl hK107 (zkl hK101 (zkl hK95 (zkl hK89 (zkl hK83 (zkl hK77 (zkl hK71 (zkl hK65 (zkl hK59 (zkl hK53 (zkl hK47 (zkl hK40 (zkl hK34 (zkl hK28 (zkl hK22 (zkl hK16 (zkl hK10 (zkl hK4 k_a0)))))))))))))))))))))))))))))))))))))))) hz264z zd_X12_init_14.1.2.2.2 ?_
  refine rn_iconst (v := 5) zd_X12_init_14.2.1.1.1 rfl ?_
  refine rn_bipush (v := 115) zd_X12_init_14.2.1.1.2 rfl ?_
  refine rn_bipush (v := 104) zd_X12_init_14.2.1.2.1 rfl ?_
  refine rn_bipush (v := 97) zd_X12_init_14.2.1.2.2 rfl ?_
  refine rn_bipush (v := 114) zd_X12_init_14.2.2.1.1 rfl ?_
  refine rn_bipush (v := 101) zd_X12_init_14.2.2.1.2 rfl ?_
  refine rn_bipush (v := 100) zd_X12_init_14.2.2.2.1 rfl ?_
  refine rn_iconst (v := 0) zd_X12_init_14.2.2.2.2 rfl ?_
  obtain ⟨r265, h266, h⟩ := zbd_e h
  refine rn_callSl (As := [.int (115 : Int32), .int (104 : Int32), .int (97 : Int32), .int (114 : Int32), .int (101 : Int32), .int (100 : Int32), .int (0 : Int32)]) (rest := [.int (5 : Int32), .ref (R240 a0 9)]) zl_X12_140 zm_X12_word ⟨by decide, by decide⟩ rfl rfl (Nat.le_of_ble_eq_true rfl) zd_X12_init_15.1.1.1.1 (ok_X12_word_g h266) ?_
  obtain ⟨L267, hL267, h⟩ := zlt_e h
  refine rn_last hL267 hz264 (by decide) zd_X12_init_15.1.1.1.2 ?_
  refine rn_aload_n (q := 0) 0 rfl zd_X12_init_15.1.1.2.1 ?_
  obtain ⟨hz268z, hz268, h⟩ := zkk_e h
  refine rn_getR zf_X12_34 (Or.inr ⟨_, rfl⟩) (zkl hK239 (zkl hK233 (zkl hK227 (zkl hK221 (zkl hK215 (zkl hK209 (zkl hK203 (zkl hK197 (zkl hK191 (zkl hK185 (zkl hK179 (zkl hK173 (zkl hK167 (zkl hK161 (zkl hK155 (zkl hK149 (zkl hK143 (zkl hK137 (zkl hK131 (zkl hK125 (zkl hK119 (zkl hK113 (zkl hK107 (zkl hK101 (zkl hK95 (zkl hK89 (zkl hK83 (zkl hK77 (zkl hK71 (zkl hK65 (zkl hK59 (zkl hK53 (zkl hK47 (zkl hK40 (zkl hK34 (zkl hK28 (zkl hK22 (zkl hK16 (zkl hK10 (zkl hK4 k_a0)))))))))))))))))))))))))))))))))))))))) hz268z zd_X12_init_15.1.1.2.2 ?_
  refine rn_bipush (v := 6) zd_X12_init_15.1.2.1.1 rfl ?_
  refine rn_bipush (v := 97) zd_X12_init_15.1.2.1.2 rfl ?_
  refine rn_bipush (v := 108) zd_X12_init_15.1.2.2.1 rfl ?_
  refine rn_bipush (v := 105) zd_X12_init_15.1.2.2.2 rfl ?_
  refine rn_bipush (v := 107) zd_X12_init_15.2.1.1.1 rfl ?_
  refine rn_bipush (v := 101) zd_X12_init_15.2.1.1.2 rfl ?_
  refine rn_iconst (v := 0) zd_X12_init_15.2.1.2.1 rfl ?_
  refine rn_iconst (v := 0) zd_X12_init_15.2.1.2.2 rfl ?_
  obtain ⟨r269, h270, h⟩ := zbd_e h
  refine rn_callSl (As := [.int (97 : Int32), .int (108 : Int32), .int (105 : Int32), .int (107 : Int32), .int (101 : Int32), .int (0 : Int32), .int (0 : Int32)]) (rest := [.int (6 : Int32), .ref (R240 a0 9)]) zl_X12_140 zm_X12_word ⟨by decide, by decide⟩ rfl rfl (Nat.le_of_ble_eq_true rfl) zd_X12_init_15.2.2.1.1 (ok_X12_word_g h270) ?_
  obtain ⟨L271, hL271, h⟩ := zlt_e h
  refine rn_last hL271 hz268 (by decide) zd_X12_init_15.2.2.1.2 ?_
  refine rn_aload_n (q := 0) 0 rfl zd_X12_init_15.2.2.2.1 ?_
  obtain ⟨hz272z, hz272, h⟩ := zkk_e h
  refine rn_getR zf_X12_34 (Or.inr ⟨_, rfl⟩) (zkl hK239 (zkl hK233 (zkl hK227 (zkl hK221 (zkl hK215 (zkl hK209 (zkl hK203 (zkl hK197 (zkl hK191 (zkl hK185 (zkl hK179 (zkl hK173 (zkl hK167 (zkl hK161 (zkl hK155 (zkl hK149 (zkl hK143 (zkl hK137 (zkl hK131 (zkl hK125 (zkl hK119 (zkl hK113 (zkl hK107 (zkl hK101 (zkl hK95 (zkl hK89 (zkl hK83 (zkl hK77 (zkl hK71 (zkl hK65 (zkl hK59 (zkl hK53 (zkl hK47 (zkl hK40 (zkl hK34 (zkl hK28 (zkl hK22 (zkl hK16 (zkl hK10 (zkl hK4 k_a0)))))))))))))))))))))))))))))))))))))))) hz272z zd_X12_init_15.2.2.2.2 ?_
  refine rn_bipush (v := 7) zd_X12_init_16.1.1.1.1 rfl ?_
  refine rn_bipush (v := 109) zd_X12_init_16.1.1.1.2 rfl ?_
  refine rn_bipush (v := 111) zd_X12_init_16.1.1.2.1 rfl ?_
  refine rn_bipush (v := 115) zd_X12_init_16.1.1.2.2 rfl ?_
  refine rn_bipush (v := 116) zd_X12_init_16.1.2.1.1 rfl ?_
  refine rn_iconst (v := 0) zd_X12_init_16.1.2.1.2 rfl ?_
  refine rn_iconst (v := 0) zd_X12_init_16.1.2.2.1 rfl ?_
  refine rn_iconst (v := 0) zd_X12_init_16.1.2.2.2 rfl ?_
  obtain ⟨r273, h274, h⟩ := zbd_e h
  refine rn_callSl (As := [.int (109 : Int32), .int (111 : Int32), .int (115 : Int32), .int (116 : Int32), .int (0 : Int32), .int (0 : Int32), .int (0 : Int32)]) (rest := [.int (7 : Int32), .ref (R240 a0 9)]) zl_X12_140 zm_X12_word ⟨by decide, by decide⟩ rfl rfl (Nat.le_of_ble_eq_true rfl) zd_X12_init_16.2.1.1.1 (ok_X12_word_g h274) ?_
  obtain ⟨L275, hL275, h⟩ := zlt_e h
  refine rn_last hL275 hz272 (by decide) zd_X12_init_16.2.1.1.2 ?_
  refine rn_aload_n (q := 0) 0 rfl zd_X12_init_16.2.1.2.1 ?_
  obtain ⟨hz276z, hz276, h⟩ := zkk_e h
  refine rn_getR zf_X12_34 (Or.inr ⟨_, rfl⟩) (zkl hK239 (zkl hK233 (zkl hK227 (zkl hK221 (zkl hK215 (zkl hK209 (zkl hK203 (zkl hK197 (zkl hK191 (zkl hK185 (zkl hK179 (zkl hK173 (zkl hK167 (zkl hK161 (zkl hK155 (zkl hK149 (zkl hK143 (zkl hK137 (zkl hK131 (zkl hK125 (zkl hK119 (zkl hK113 (zkl hK107 (zkl hK101 (zkl hK95 (zkl hK89 (zkl hK83 (zkl hK77 (zkl hK71 (zkl hK65 (zkl hK59 (zkl hK53 (zkl hK47 (zkl hK40 (zkl hK34 (zkl hK28 (zkl hK22 (zkl hK16 (zkl hK10 (zkl hK4 k_a0)))))))))))))))))))))))))))))))))))))))) hz276z zd_X12_init_16.2.1.2.2 ?_
  refine rn_bipush (v := 8) zd_X12_init_16.2.2.1.1 rfl ?_
  refine rn_bipush (v := 114) zd_X12_init_16.2.2.1.2 rfl ?_
  refine rn_bipush (v := 111) zd_X12_init_16.2.2.2.1 rfl ?_
  refine rn_bipush (v := 117) zd_X12_init_16.2.2.2.2 rfl ?_
  refine rn_bipush (v := 110) zd_X12_init_17.1.1.1.1 rfl ?_
  refine rn_bipush (v := 100) zd_X12_init_17.1.1.1.2 rfl ?_
  refine rn_iconst (v := 0) zd_X12_init_17.1.1.2.1 rfl ?_
  refine rn_iconst (v := 0) zd_X12_init_17.1.1.2.2 rfl ?_
  obtain ⟨r277, h278, h⟩ := zbd_e h
  refine rn_callSl (As := [.int (114 : Int32), .int (111 : Int32), .int (117 : Int32), .int (110 : Int32), .int (100 : Int32), .int (0 : Int32), .int (0 : Int32)]) (rest := [.int (8 : Int32), .ref (R240 a0 9)]) zl_X12_140 zm_X12_word ⟨by decide, by decide⟩ rfl rfl (Nat.le_of_ble_eq_true rfl) zd_X12_init_17.1.2.1.1 (ok_X12_word_g h278) ?_
  obtain ⟨L279, hL279, h⟩ := zlt_e h
  refine rn_last hL279 hz276 (by decide) zd_X12_init_17.1.2.1.2 ?_
  refine rn_aload_n (q := 0) 0 rfl zd_X12_init_17.1.2.2.1 ?_
  obtain ⟨hz280z, hz280, h⟩ := zkk_e h
  refine rn_getR zf_X12_34 (Or.inr ⟨_, rfl⟩) (zkl hK239 (zkl hK233 (zkl hK227 (zkl hK221 (zkl hK215 (zkl hK209 (zkl hK203 (zkl hK197 (zkl hK191 (zkl hK185 (zkl hK179 (zkl hK173 (zkl hK167 (zkl hK161 (zkl hK155 (zkl hK149 (zkl hK143 (zkl hK137 (zkl hK131 (zkl hK125 (zkl hK119 (zkl hK113 (zkl hK107 (zkl hK101 (zkl hK95 (zkl hK89 (zkl hK83 (zkl hK77 (zkl hK71 (zkl hK65 (zkl hK59 (zkl hK53 (zkl hK47 (zkl hK40 (zkl hK34 (zkl hK28 (zkl hK22 (zkl hK16 (zkl hK10 (zkl hK4 k_a0)))))))))))))))))))))))))))))))))))))))) hz280z zd_X12_init_17.1.2.2.2 ?_
  refine rn_bipush (v := 9) zd_X12_init_17.2.1.1.1 rfl ?_
  refine rn_bipush (v := 115) zd_X12_init_17.2.1.1.2 rfl ?_
  refine rn_bipush (v := 101) zd_X12_init_17.2.1.2.1 rfl ?_
  refine rn_bipush (v := 101) zd_X12_init_17.2.1.2.2 rfl ?_
  refine rn_bipush (v := 100) zd_X12_init_17.2.2.1.1 rfl ?_
  refine rn_iconst (v := 0) zd_X12_init_17.2.2.1.2 rfl ?_
  refine rn_iconst (v := 0) zd_X12_init_17.2.2.2.1 rfl ?_
  refine rn_iconst (v := 0) zd_X12_init_17.2.2.2.2 rfl ?_
  obtain ⟨r281, h282, h⟩ := zbd_e h
  refine rn_callSl (As := [.int (115 : Int32), .int (101 : Int32), .int (101 : Int32), .int (100 : Int32), .int (0 : Int32), .int (0 : Int32), .int (0 : Int32)]) (rest := [.int (9 : Int32), .ref (R240 a0 9)]) zl_X12_140 zm_X12_word ⟨by decide, by decide⟩ rfl rfl (Nat.le_of_ble_eq_true rfl) zd_X12_init_18.1.1.1.1 (ok_X12_word_g h282) ?_
  obtain ⟨L283, hL283, h⟩ := zlt_e h
  refine rn_last hL283 hz280 (by decide) zd_X12_init_18.1.1.1.2 ?_
  refine rn_aload_n (q := 0) 0 rfl zd_X12_init_18.1.1.2.1 ?_
  obtain ⟨hz284z, hz284, h⟩ := zkk_e h
  refine rn_getR zf_X12_34 (Or.inr ⟨_, rfl⟩) (zkl hK239 (zkl hK233 (zkl hK227 (zkl hK221 (zkl hK215 (zkl hK209 (zkl hK203 (zkl hK197 (zkl hK191 (zkl hK185 (zkl hK179 (zkl hK173 (zkl hK167 (zkl hK161 (zkl hK155 (zkl hK149 (zkl hK143 (zkl hK137 (zkl hK131 (zkl hK125 (zkl hK119 (zkl hK113 (zkl hK107 (zkl hK101 (zkl hK95 (zkl hK89 (zkl hK83 (zkl hK77 (zkl hK71 (zkl hK65 (zkl hK59 (zkl hK53 (zkl hK47 (zkl hK40 (zkl hK34 (zkl hK28 (zkl hK22 (zkl hK16 (zkl hK10 (zkl hK4 k_a0)))))))))))))))))))))))))))))))))))))))) hz284z zd_X12_init_18.1.1.2.2 ?_
  refine rn_bipush (v := 10) zd_X12_init_18.1.2.1.1 rfl ?_
  refine rn_bipush (v := 105) zd_X12_init_18.1.2.1.2 rfl ?_
  refine rn_bipush (v := 102) zd_X12_init_18.1.2.2.1 rfl ?_
  refine rn_iconst (v := 0) zd_X12_init_18.1.2.2.2 rfl ?_
  refine rn_iconst (v := 0) zd_X12_init_18.2.1.1.1 rfl ?_
  refine rn_iconst (v := 0) zd_X12_init_18.2.1.1.2 rfl ?_
  refine rn_iconst (v := 0) zd_X12_init_18.2.1.2.1 rfl ?_
  refine rn_iconst (v := 0) zd_X12_init_18.2.1.2.2 rfl ?_
  obtain ⟨r285, h286, h⟩ := zbd_e h
  refine rn_callSl (As := [.int (105 : Int32), .int (102 : Int32), .int (0 : Int32), .int (0 : Int32), .int (0 : Int32), .int (0 : Int32), .int (0 : Int32)]) (rest := [.int (10 : Int32), .ref (R240 a0 9)]) zl_X12_140 zm_X12_word ⟨by decide, by decide⟩ rfl rfl (Nat.le_of_ble_eq_true rfl) zd_X12_init_18.2.2.1.1 (ok_X12_word_g h286) ?_
  obtain ⟨L287, hL287, h⟩ := zlt_e h
  refine rn_last hL287 hz284 (by decide) zd_X12_init_18.2.2.1.2 ?_
  refine rn_aload_n (q := 0) 0 rfl zd_X12_init_18.2.2.2.1 ?_
  obtain ⟨hz288z, hz288, h⟩ := zkk_e h
  refine rn_getR zf_X12_34 (Or.inr ⟨_, rfl⟩) (zkl hK239 (zkl hK233 (zkl hK227 (zkl hK221 (zkl hK215 (zkl hK209 (zkl hK203 (zkl hK197 (zkl hK191 (zkl hK185 (zkl hK179 (zkl hK173 (zkl hK167 (zkl hK161 (zkl hK155 (zkl hK149 (zkl hK143 (zkl hK137 (zkl hK131 (zkl hK125 (zkl hK119 (zkl hK113 (zkl hK107 (zkl hK101 (zkl hK95 (zkl hK89 (zkl hK83 (zkl hK77 (zkl hK71 (zkl hK65 (zkl hK59 (zkl hK53 (zkl hK47 (zkl hK40 (zkl hK34 (zkl hK28 (zkl hK22 (zkl hK16 (zkl hK10 (zkl hK4 k_a0)))))))))))))))))))))))))))))))))))))))) hz288z zd_X12_init_18.2.2.2.2 ?_
  refine rn_bipush (v := 11) zd_X12_init_19.1.1.1.1 rfl ?_
  refine rn_bipush (v := 116) zd_X12_init_19.1.1.1.2 rfl ?_
  refine rn_bipush (v := 104) zd_X12_init_19.1.1.2.1 rfl ?_
  refine rn_bipush (v := 101) zd_X12_init_19.1.1.2.2 rfl ?_
  refine rn_bipush (v := 110) zd_X12_init_19.1.2.1.1 rfl ?_
  refine rn_iconst (v := 0) zd_X12_init_19.1.2.1.2 rfl ?_
  refine rn_iconst (v := 0) zd_X12_init_19.1.2.2.1 rfl ?_
  refine rn_iconst (v := 0) zd_X12_init_19.1.2.2.2 rfl ?_
  obtain ⟨r289, h290, h⟩ := zbd_e h
  refine rn_callSl (As := [.int (116 : Int32), .int (104 : Int32), .int (101 : Int32), .int (110 : Int32), .int (0 : Int32), .int (0 : Int32), .int (0 : Int32)]) (rest := [.int (11 : Int32), .ref (R240 a0 9)]) zl_X12_140 zm_X12_word ⟨by decide, by decide⟩ rfl rfl (Nat.le_of_ble_eq_true rfl) zd_X12_init_19.2.1.1.1 (ok_X12_word_g h290) ?_
  obtain ⟨L291, hL291, h⟩ := zlt_e h
  refine rn_last hL291 hz288 (by decide) zd_X12_init_19.2.1.1.2 ?_
  refine rn_aload_n (q := 0) 0 rfl zd_X12_init_19.2.1.2.1 ?_
  obtain ⟨hz292z, hz292, h⟩ := zkk_e h
  refine rn_getR zf_X12_34 (Or.inr ⟨_, rfl⟩) (zkl hK239 (zkl hK233 (zkl hK227 (zkl hK221 (zkl hK215 (zkl hK209 (zkl hK203 (zkl hK197 (zkl hK191 (zkl hK185 (zkl hK179 (zkl hK173 (zkl hK167 (zkl hK161 (zkl hK155 (zkl hK149 (zkl hK143 (zkl hK137 (zkl hK131 (zkl hK125 (zkl hK119 (zkl hK113 (zkl hK107 (zkl hK101 (zkl hK95 (zkl hK89 (zkl hK83 (zkl hK77 (zkl hK71 (zkl hK65 (zkl hK59 (zkl hK53 (zkl hK47 (zkl hK40 (zkl hK34 (zkl hK28 (zkl hK22 (zkl hK16 (zkl hK10 (zkl hK4 k_a0)))))))))))))))))))))))))))))))))))))))) hz292z zd_X12_init_19.2.1.2.2 ?_
  refine rn_bipush (v := 12) zd_X12_init_19.2.2.1.1 rfl ?_
  refine rn_bipush (v := 101) zd_X12_init_19.2.2.1.2 rfl ?_
  refine rn_bipush (v := 108) zd_X12_init_19.2.2.2.1 rfl ?_
  refine rn_bipush (v := 115) zd_X12_init_19.2.2.2.2 rfl ?_
  refine rn_bipush (v := 101) zd_X12_init_20.1.1.1.1 rfl ?_
  refine rn_iconst (v := 0) zd_X12_init_20.1.1.1.2 rfl ?_
  refine rn_iconst (v := 0) zd_X12_init_20.1.1.2.1 rfl ?_
  refine rn_iconst (v := 0) zd_X12_init_20.1.1.2.2 rfl ?_
  obtain ⟨r293, h294, h⟩ := zbd_e h
  refine rn_callSl (As := [.int (101 : Int32), .int (108 : Int32), .int (115 : Int32), .int (101 : Int32), .int (0 : Int32), .int (0 : Int32), .int (0 : Int32)]) (rest := [.int (12 : Int32), .ref (R240 a0 9)]) zl_X12_140 zm_X12_word ⟨by decide, by decide⟩ rfl rfl (Nat.le_of_ble_eq_true rfl) zd_X12_init_20.1.2.1.1 (ok_X12_word_g h294) ?_
  obtain ⟨L295, hL295, h⟩ := zlt_e h
  refine rn_last hL295 hz292 (by decide) zd_X12_init_20.1.2.1.2 ?_
  refine rn_aload_n (q := 0) 0 rfl zd_X12_init_20.1.2.2.1 ?_
  obtain ⟨hz296z, hz296, h⟩ := zkk_e h
  refine rn_getR zf_X12_34 (Or.inr ⟨_, rfl⟩) (zkl hK239 (zkl hK233 (zkl hK227 (zkl hK221 (zkl hK215 (zkl hK209 (zkl hK203 (zkl hK197 (zkl hK191 (zkl hK185 (zkl hK179 (zkl hK173 (zkl hK167 (zkl hK161 (zkl hK155 (zkl hK149 (zkl hK143 (zkl hK137 (zkl hK131 (zkl hK125 (zkl hK119 (zkl hK113 (zkl hK107 (zkl hK101 (zkl hK95 (zkl hK89 (zkl hK83 (zkl hK77 (zkl hK71 (zkl hK65 (zkl hK59 (zkl hK53 (zkl hK47 (zkl hK40 (zkl hK34 (zkl hK28 (zkl hK22 (zkl hK16 (zkl hK10 (zkl hK4 k_a0)))))))))))))))))))))))))))))))))))))))) hz296z zd_X12_init_20.1.2.2.2 ?_
  refine rn_bipush (v := 13) zd_X12_init_20.2.1.1.1 rfl ?_
  refine rn_bipush (v := 108) zd_X12_init_20.2.1.1.2 rfl ?_
  refine rn_bipush (v := 101) zd_X12_init_20.2.1.2.1 rfl ?_
  refine rn_bipush (v := 102) zd_X12_init_20.2.1.2.2 rfl ?_
  refine rn_bipush (v := 116) zd_X12_init_20.2.2.1.1 rfl ?_
  refine rn_iconst (v := 0) zd_X12_init_20.2.2.1.2 rfl ?_
  refine rn_iconst (v := 0) zd_X12_init_20.2.2.2.1 rfl ?_
  refine rn_iconst (v := 0) zd_X12_init_20.2.2.2.2 rfl ?_
  obtain ⟨r297, h298, h⟩ := zbd_e h
  refine rn_callSl (As := [.int (108 : Int32), .int (101 : Int32), .int (102 : Int32), .int (116 : Int32), .int (0 : Int32), .int (0 : Int32), .int (0 : Int32)]) (rest := [.int (13 : Int32), .ref (R240 a0 9)]) zl_X12_140 zm_X12_word ⟨by decide, by decide⟩ rfl rfl (Nat.le_of_ble_eq_true rfl) zd_X12_init_21.1.1.1.1 (ok_X12_word_g h298) ?_
  obtain ⟨L299, hL299, h⟩ := zlt_e h
  refine rn_last hL299 hz296 (by decide) zd_X12_init_21.1.1.1.2 ?_
  refine rn_aload_n (q := 0) 0 rfl zd_X12_init_21.1.1.2.1 ?_
  obtain ⟨hz300z, hz300, h⟩ := zkk_e h
  refine rn_getR zf_X12_34 (Or.inr ⟨_, rfl⟩) (zkl hK239 (zkl hK233 (zkl hK227 (zkl hK221 (zkl hK215 (zkl hK209 (zkl hK203 (zkl hK197 (zkl hK191 (zkl hK185 (zkl hK179 (zkl hK173 (zkl hK167 (zkl hK161 (zkl hK155 (zkl hK149 (zkl hK143 (zkl hK137 (zkl hK131 (zkl hK125 (zkl hK119 (zkl hK113 (zkl hK107 (zkl hK101 (zkl hK95 (zkl hK89 (zkl hK83 (zkl hK77 (zkl hK71 (zkl hK65 (zkl hK59 (zkl hK53 (zkl hK47 (zkl hK40 (zkl hK34 (zkl hK28 (zkl hK22 (zkl hK16 (zkl hK10 (zkl hK4 k_a0)))))))))))))))))))))))))))))))))))))))) hz300z zd_X12_init_21.1.1.2.2 ?_
  refine rn_bipush (v := 14) zd_X12_init_21.1.2.1.1 rfl ?_
  refine rn_bipush (v := 114) zd_X12_init_21.1.2.1.2 rfl ?_
  refine rn_bipush (v := 105) zd_X12_init_21.1.2.2.1 rfl ?_
  refine rn_bipush (v := 103) zd_X12_init_21.1.2.2.2 rfl ?_
  refine rn_bipush (v := 104) zd_X12_init_21.2.1.1.1 rfl ?_
  refine rn_bipush (v := 116) zd_X12_init_21.2.1.1.2 rfl ?_
  refine rn_iconst (v := 0) zd_X12_init_21.2.1.2.1 rfl ?_
  refine rn_iconst (v := 0) zd_X12_init_21.2.1.2.2 rfl ?_
  obtain ⟨r301, h302, h⟩ := zbd_e h
  refine rn_callSl (As := [.int (114 : Int32), .int (105 : Int32), .int (103 : Int32), .int (104 : Int32), .int (116 : Int32), .int (0 : Int32), .int (0 : Int32)]) (rest := [.int (14 : Int32), .ref (R240 a0 9)]) zl_X12_140 zm_X12_word ⟨by decide, by decide⟩ rfl rfl (Nat.le_of_ble_eq_true rfl) zd_X12_init_21.2.2.1.1 (ok_X12_word_g h302) ?_
  obtain ⟨L303, hL303, h⟩ := zlt_e h
  refine rn_last hL303 hz300 (by decide) zd_X12_init_21.2.2.1.2 ?_
  refine rn_aload_n (q := 0) 0 rfl zd_X12_init_21.2.2.2.1 ?_
  obtain ⟨hz304z, hz304, h⟩ := zkk_e h
  refine rn_getR zf_X12_34 (Or.inr ⟨_, rfl⟩) (zkl hK239 (zkl hK233 (zkl hK227 (zkl hK221 (zkl hK215 (zkl hK209 (zkl hK203 (zkl hK197 (zkl hK191 (zkl hK185 (zkl hK179 (zkl hK173 (zkl hK167 (zkl hK161 (zkl hK155 (zkl hK149 (zkl hK143 (zkl hK137 (zkl hK131 (zkl hK125 (zkl hK119 (zkl hK113 (zkl hK107 (zkl hK101 (zkl hK95 (zkl hK89 (zkl hK83 (zkl hK77 (zkl hK71 (zkl hK65 (zkl hK59 (zkl hK53 (zkl hK47 (zkl hK40 (zkl hK34 (zkl hK28 (zkl hK22 (zkl hK16 (zkl hK10 (zkl hK4 k_a0)))))))))))))))))))))))))))))))))))))))) hz304z zd_X12_init_21.2.2.2.2 ?_
  refine rn_bipush (v := 15) zd_X12_init_22.1.1.1.1 rfl ?_
  refine rn_bipush (v := 111) zd_X12_init_22.1.1.1.2 rfl ?_
  refine rn_bipush (v := 119) zd_X12_init_22.1.1.2.1 rfl ?_
  refine rn_bipush (v := 110) zd_X12_init_22.1.1.2.2 rfl ?_
  refine rn_iconst (v := 0) zd_X12_init_22.1.2.1.1 rfl ?_
  refine rn_iconst (v := 0) zd_X12_init_22.1.2.1.2 rfl ?_
  refine rn_iconst (v := 0) zd_X12_init_22.1.2.2.1 rfl ?_
  refine rn_iconst (v := 0) zd_X12_init_22.1.2.2.2 rfl ?_
  obtain ⟨r305, h306, h⟩ := zbd_e h
  refine rn_callSl (As := [.int (111 : Int32), .int (119 : Int32), .int (110 : Int32), .int (0 : Int32), .int (0 : Int32), .int (0 : Int32), .int (0 : Int32)]) (rest := [.int (15 : Int32), .ref (R240 a0 9)]) zl_X12_140 zm_X12_word ⟨by decide, by decide⟩ rfl rfl (Nat.le_of_ble_eq_true rfl) zd_X12_init_22.2.1.1.1 (ok_X12_word_g h306) ?_
  obtain ⟨L307, hL307, h⟩ := zlt_e h
  refine rn_last hL307 hz304 (by decide) zd_X12_init_22.2.1.1.2 ?_
  refine rn_aload_n (q := 0) 0 rfl zd_X12_init_22.2.1.2.1 ?_
  obtain ⟨hz308z, hz308, h⟩ := zkk_e h
  refine rn_getR zf_X12_34 (Or.inr ⟨_, rfl⟩) (zkl hK239 (zkl hK233 (zkl hK227 (zkl hK221 (zkl hK215 (zkl hK209 (zkl hK203 (zkl hK197 (zkl hK191 (zkl hK185 (zkl hK179 (zkl hK173 (zkl hK167 (zkl hK161 (zkl hK155 (zkl hK149 (zkl hK143 (zkl hK137 (zkl hK131 (zkl hK125 (zkl hK119 (zkl hK113 (zkl hK107 (zkl hK101 (zkl hK95 (zkl hK89 (zkl hK83 (zkl hK77 (zkl hK71 (zkl hK65 (zkl hK59 (zkl hK53 (zkl hK47 (zkl hK40 (zkl hK34 (zkl hK28 (zkl hK22 (zkl hK16 (zkl hK10 (zkl hK4 k_a0)))))))))))))))))))))))))))))))))))))))) hz308z zd_X12_init_22.2.1.2.2 ?_
  refine rn_bipush (v := 16) zd_X12_init_22.2.2.1.1 rfl ?_
  refine rn_bipush (v := 103) zd_X12_init_22.2.2.1.2 rfl ?_
  refine rn_bipush (v := 97) zd_X12_init_22.2.2.2.1 rfl ?_
  refine rn_bipush (v := 112) zd_X12_init_22.2.2.2.2 rfl ?_
  refine rn_iconst (v := 0) zd_X12_init_23.1.1.1.1 rfl ?_
  refine rn_iconst (v := 0) zd_X12_init_23.1.1.1.2 rfl ?_
  refine rn_iconst (v := 0) zd_X12_init_23.1.1.2.1 rfl ?_
  refine rn_iconst (v := 0) zd_X12_init_23.1.1.2.2 rfl ?_
  obtain ⟨r309, h310, h⟩ := zbd_e h
  refine rn_callSl (As := [.int (103 : Int32), .int (97 : Int32), .int (112 : Int32), .int (0 : Int32), .int (0 : Int32), .int (0 : Int32), .int (0 : Int32)]) (rest := [.int (16 : Int32), .ref (R240 a0 9)]) zl_X12_140 zm_X12_word ⟨by decide, by decide⟩ rfl rfl (Nat.le_of_ble_eq_true rfl) zd_X12_init_23.1.2.1.1 (ok_X12_word_g h310) ?_
  obtain ⟨L311, hL311, h⟩ := zlt_e h
  refine rn_last hL311 hz308 (by decide) zd_X12_init_23.1.2.1.2 ?_
  refine rn_aload_n (q := 0) 0 rfl zd_X12_init_23.1.2.2.1 ?_
  obtain ⟨hz312z, hz312, h⟩ := zkk_e h
  refine rn_getR zf_X12_34 (Or.inr ⟨_, rfl⟩) (zkl hK239 (zkl hK233 (zkl hK227 (zkl hK221 (zkl hK215 (zkl hK209 (zkl hK203 (zkl hK197 (zkl hK191 (zkl hK185 (zkl hK179 (zkl hK173 (zkl hK167 (zkl hK161 (zkl hK155 (zkl hK149 (zkl hK143 (zkl hK137 (zkl hK131 (zkl hK125 (zkl hK119 (zkl hK113 (zkl hK107 (zkl hK101 (zkl hK95 (zkl hK89 (zkl hK83 (zkl hK77 (zkl hK71 (zkl hK65 (zkl hK59 (zkl hK53 (zkl hK47 (zkl hK40 (zkl hK34 (zkl hK28 (zkl hK22 (zkl hK16 (zkl hK10 (zkl hK4 k_a0)))))))))))))))))))))))))))))))))))))))) hz312z zd_X12_init_23.1.2.2.2 ?_
  refine rn_bipush (v := 17) zd_X12_init_23.2.1.1.1 rfl ?_
  refine rn_bipush (v := 100) zd_X12_init_23.2.1.1.2 rfl ?_
  refine rn_bipush (v := 97) zd_X12_init_23.2.1.2.1 rfl ?_
  refine rn_bipush (v := 121) zd_X12_init_23.2.1.2.2 rfl ?_
  refine rn_iconst (v := 0) zd_X12_init_23.2.2.1.1 rfl ?_
  refine rn_iconst (v := 0) zd_X12_init_23.2.2.1.2 rfl ?_
  refine rn_iconst (v := 0) zd_X12_init_23.2.2.2.1 rfl ?_
  refine rn_iconst (v := 0) zd_X12_init_23.2.2.2.2 rfl ?_
  obtain ⟨r313, h314, h⟩ := zbd_e h
  refine rn_callSl (As := [.int (100 : Int32), .int (97 : Int32), .int (121 : Int32), .int (0 : Int32), .int (0 : Int32), .int (0 : Int32), .int (0 : Int32)]) (rest := [.int (17 : Int32), .ref (R240 a0 9)]) zl_X12_140 zm_X12_word ⟨by decide, by decide⟩ rfl rfl (Nat.le_of_ble_eq_true rfl) zd_X12_init_24.1.1.1.1 (ok_X12_word_g h314) ?_
  obtain ⟨L315, hL315, h⟩ := zlt_e h
  refine rn_last hL315 hz312 (by decide) zd_X12_init_24.1.1.1.2 ?_
  refine rn_aload_n (q := 0) 0 rfl zd_X12_init_24.1.1.2.1 ?_
  obtain ⟨hz316z, hz316, h⟩ := zkk_e h
  refine rn_getR zf_X12_34 (Or.inr ⟨_, rfl⟩) (zkl hK239 (zkl hK233 (zkl hK227 (zkl hK221 (zkl hK215 (zkl hK209 (zkl hK203 (zkl hK197 (zkl hK191 (zkl hK185 (zkl hK179 (zkl hK173 (zkl hK167 (zkl hK161 (zkl hK155 (zkl hK149 (zkl hK143 (zkl hK137 (zkl hK131 (zkl hK125 (zkl hK119 (zkl hK113 (zkl hK107 (zkl hK101 (zkl hK95 (zkl hK89 (zkl hK83 (zkl hK77 (zkl hK71 (zkl hK65 (zkl hK59 (zkl hK53 (zkl hK47 (zkl hK40 (zkl hK34 (zkl hK28 (zkl hK22 (zkl hK16 (zkl hK10 (zkl hK4 k_a0)))))))))))))))))))))))))))))))))))))))) hz316z zd_X12_init_24.1.1.2.2 ?_
  refine rn_bipush (v := 18) zd_X12_init_24.1.2.1.1 rfl ?_
  refine rn_bipush (v := 108) zd_X12_init_24.1.2.1.2 rfl ?_
  refine rn_bipush (v := 111) zd_X12_init_24.1.2.2.1 rfl ?_
  refine rn_bipush (v := 116) zd_X12_init_24.1.2.2.2 rfl ?_
  refine rn_iconst (v := 0) zd_X12_init_24.2.1.1.1 rfl ?_
  refine rn_iconst (v := 0) zd_X12_init_24.2.1.1.2 rfl ?_
  refine rn_iconst (v := 0) zd_X12_init_24.2.1.2.1 rfl ?_
  refine rn_iconst (v := 0) zd_X12_init_24.2.1.2.2 rfl ?_
  obtain ⟨r317, h318, h⟩ := zbd_e h
  refine rn_callSl (As := [.int (108 : Int32), .int (111 : Int32), .int (116 : Int32), .int (0 : Int32), .int (0 : Int32), .int (0 : Int32), .int (0 : Int32)]) (rest := [.int (18 : Int32), .ref (R240 a0 9)]) zl_X12_140 zm_X12_word ⟨by decide, by decide⟩ rfl rfl (Nat.le_of_ble_eq_true rfl) zd_X12_init_24.2.2.1.1 (ok_X12_word_g h318) ?_
  obtain ⟨L319, hL319, h⟩ := zlt_e h
  refine rn_last hL319 hz316 (by decide) zd_X12_init_24.2.2.1.2 ?_
  refine rn_aload_n (q := 0) 0 rfl zd_X12_init_24.2.2.2.1 ?_
  obtain ⟨hz320z, hz320, h⟩ := zkk_e h
  refine rn_getR zf_X12_34 (Or.inr ⟨_, rfl⟩) (zkl hK239 (zkl hK233 (zkl hK227 (zkl hK221 (zkl hK215 (zkl hK209 (zkl hK203 (zkl hK197 (zkl hK191 (zkl hK185 (zkl hK179 (zkl hK173 (zkl hK167 (zkl hK161 (zkl hK155 (zkl hK149 (zkl hK143 (zkl hK137 (zkl hK131 (zkl hK125 (zkl hK119 (zkl hK113 (zkl hK107 (zkl hK101 (zkl hK95 (zkl hK89 (zkl hK83 (zkl hK77 (zkl hK71 (zkl hK65 (zkl hK59 (zkl hK53 (zkl hK47 (zkl hK40 (zkl hK34 (zkl hK28 (zkl hK22 (zkl hK16 (zkl hK10 (zkl hK4 k_a0)))))))))))))))))))))))))))))))))))))))) hz320z zd_X12_init_24.2.2.2.2 ?_
  refine rn_bipush (v := 19) zd_X12_init_25.1.1.1 rfl ?_
  refine rn_bipush (v := 112) zd_X12_init_25.1.1.2 rfl ?_
  refine rn_bipush (v := 111) zd_X12_init_25.1.2.1 rfl ?_
  refine rn_bipush (v := 116) zd_X12_init_25.1.2.2.1 rfl ?_
  refine rn_iconst (v := 0) zd_X12_init_25.1.2.2.2 rfl ?_
  refine rn_iconst (v := 0) zd_X12_init_25.2.1.1 rfl ?_
  refine rn_iconst (v := 0) zd_X12_init_25.2.1.2.1 rfl ?_
  refine rn_iconst (v := 0) zd_X12_init_25.2.1.2.2 rfl ?_
  obtain ⟨r321, h322, h⟩ := zbd_e h
  refine rn_callSl (As := [.int (112 : Int32), .int (111 : Int32), .int (116 : Int32), .int (0 : Int32), .int (0 : Int32), .int (0 : Int32), .int (0 : Int32)]) (rest := [.int (19 : Int32), .ref (R240 a0 9)]) zl_X12_140 zm_X12_word ⟨by decide, by decide⟩ rfl rfl (Nat.le_of_ble_eq_true rfl) zd_X12_init_25.2.2.1 (ok_X12_word_g h322) ?_
  obtain ⟨L323, hL323, h⟩ := zlt_e h
  refine rn_last hL323 hz320 (by decide) zd_X12_init_25.2.2.2.1 ?_
  cases h
  exact rn_vret zd_X12_init_25.2.2.2.2 rfl

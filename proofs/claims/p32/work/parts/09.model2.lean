def f_X12_evening (R : zR) (M : zM) (a0 : Nat) (x1 : Int32) : Option (zM) :=
  zbd (f_X12_earnAll R M a0) fun M1 =>
  zck (zin (M1 a0 18) 2) <|
  zbd (f_X12_payAll R M1 a0 (M1 (R a0 25) (ztn (M1 a0 18))) (0 : Int32)) fun M4 =>
  zbd (f_X12_ends R M4 a0 x1) fun M6 =>
  some M6
set_option maxRecDepth 4000 in
theorem ok_X12_evening {G : zG} {K : zK} {R : zR} {M : zM} {L : zL} (hW : zWT R K) {a0 : Nat} {x1 : Int32} (k_a0 : K[a0]? = some (12, 61)) {M' : zM} (h : f_X12_evening R M a0 x1 = some M') : Rm G mt_X12_evening [.ref a0, .int x1] (M, L, R, K) none (M', L, R, K) := by
  refine rm_rn rfl rfl (Nat.le_of_ble_eq_true rfl) ?_
  show Rn G mt_X12_evening 0 [(0, .ref a0), (1, .int x1)] [] (M, L, R, K) none (M', L, R, K)
  unfold f_X12_evening at h
  refine rn_aload_n (q := 0) 0 rfl zd_X12_evening_0.1.1.1 ?_
  obtain ⟨M1, h2, h⟩ := zbd_e h
  refine rn_callVv (As := []) (rest := []) zl_X12_312 zm_X12_earnAll ⟨by decide, by decide⟩ (ci := 12) rfl rfl (by decide) k_a0 rfl rfl (Nat.le_of_ble_eq_true rfl) zd_X12_evening_0.1.1.2.1 (ok_X12_earnAll hW k_a0 h2) ?_
  refine rn_aload_n (q := 0) 0 rfl zd_X12_evening_0.1.1.2.2 ?_
  refine rn_aload_n (q := 0) 0 rfl zd_X12_evening_0.1.2.1.1 ?_
  refine rn_getR zf_X12_53 (Or.inr ⟨_, rfl⟩) k_a0 (zx_12_25 hW k_a0) zd_X12_evening_0.1.2.1.2 ?_
  refine rn_aload_n (q := 0) 0 rfl zd_X12_evening_0.1.2.2.1 ?_
  refine rn_getI zf_X12_212 (Or.inl rfl) k_a0 zd_X12_evening_0.1.2.2.2 ?_
  obtain ⟨hc3, h⟩ := zck_e h
  refine rn_zald (zw_12_25 hW k_a0) hc3 zd_X12_evening_0.2.1.1 ?_
  refine rn_iconst (v := 0) zd_X12_evening_0.2.1.2.1 rfl ?_
  obtain ⟨M4, h5, h⟩ := zbd_e h
  refine rn_callVv (As := [.int (M1 (R a0 25) (ztn (M1 a0 18))), .int (0 : Int32)]) (rest := []) zl_X12_315 zm_X12_payAll ⟨by decide, by decide⟩ (ci := 12) rfl rfl (by decide) k_a0 rfl rfl (Nat.le_of_ble_eq_true rfl) zd_X12_evening_0.2.1.2.2 (ok_X12_payAll hW k_a0 h5) ?_
  refine rn_aload_n (q := 0) 0 rfl zd_X12_evening_0.2.2.1.1 ?_
  refine rn_iload_n (q := 1) 1 rfl zd_X12_evening_0.2.2.1.2 ?_
  obtain ⟨M6, h7, h⟩ := zbd_e h
  refine rn_callVv (As := [.int x1]) (rest := []) zl_X12_319 zm_X12_ends ⟨by decide, by decide⟩ (ci := 12) rfl rfl (by decide) k_a0 rfl rfl (Nat.le_of_ble_eq_true rfl) zd_X12_evening_0.2.2.2.1 (ok_X12_ends hW k_a0 h7) ?_
  cases h
  exact rn_vret zd_X12_evening_0.2.2.2.2 rfl
abbrev P_X12_evenings_2 (G : zG) (K : zK) (R : zR) (L : zL) (a0 : Nat) (x1 : Int32) (r : Option Value) (S' : zS) (v : Int32 × zM) : Prop := Rn G mt_X12_evenings 2 [(0, .ref a0), (1, .int x1), (2, .int v.1)] [] (v.2, L, R, K) r S'
abbrev Q_X12_evenings_2 (G : zG) (K : zK) (R : zR) (L : zL) (a0 : Nat) (x1 : Int32) (r : Option Value) (S' : zS) : (zM) → Prop := (fun e => Rn G mt_X12_evenings 26 [] [] (e, L, R, K) r S')
def b_X12_evenings_2 (R : zR) (M : zM) (a0 : Nat) (x1 : Int32) (x2 : Int32) : Option ((Int32 × zM) ⊕ ((zM))) :=
  if x1 ≤ x2 then (
    some (.inr M)
  ) else (
    zck (zin (M a0 18) 2) <|
    zbd (f_X12_evening R M a0 (M (R a0 26) (ztn (M a0 18)))) fun M3 =>
    some (.inl ((x2 + 1), M3))
  )
set_option maxRecDepth 4000 in
theorem ok_b_X12_evenings_2 {G : zG} {K : zK} {R : zR} {M : zM} {L : zL} (hW : zWT R K) {a0 : Nat} {x1 : Int32} {x2 : Int32} (k_a0 : K[a0]? = some (12, 61)) {r : Option Value} {S' : zS} {x : (Int32 × zM) ⊕ ((zM))} (h : b_X12_evenings_2 R M a0 x1 x2 = some x) (hk : Sum.elim (P_X12_evenings_2 G K R L a0 x1 r S') (Q_X12_evenings_2 G K R L a0 x1 r S') x) : P_X12_evenings_2 G K R L a0 x1 r S' (x2, M) := by
  show Rn G mt_X12_evenings 2 [(0, .ref a0), (1, .int x1), (2, .int x2)] [] (M, L, R, K) r S'
  unfold b_X12_evenings_2 at h
  refine rn_iload_n (q := 2) 2 rfl zd_X12_evenings_0.1.1.2.2 ?_
  refine rn_iload_n (q := 1) 1 rfl zd_X12_evenings_0.1.2.1.1 ?_
  rcases zif_e h with ⟨hc1, h⟩ | ⟨hc1, h⟩
  · refine rn_icmp_ge_t (tgt := 26) hc1 zd_X12_evenings_0.1.2.1.2 rfl ?_
    cases h
    exact rn_sub (ls' := []) [] rfl hk
  · refine rn_icmp_ge_f (tgt := 26) hc1 zd_X12_evenings_0.1.2.1.2 rfl ?_
    refine rn_aload_n (q := 0) 0 rfl zd_X12_evenings_0.1.2.2.1 ?_
    refine rn_aload_n (q := 0) 0 rfl zd_X12_evenings_0.1.2.2.2 ?_
    refine rn_getR zf_X12_56 (Or.inr ⟨_, rfl⟩) k_a0 (zx_12_26 hW k_a0) zd_X12_evenings_0.2.1.1.1 ?_
    refine rn_aload_n (q := 0) 0 rfl zd_X12_evenings_0.2.1.1.2 ?_
    refine rn_getI zf_X12_212 (Or.inl rfl) k_a0 zd_X12_evenings_0.2.1.2.1 ?_
    obtain ⟨hc2, h⟩ := zck_e h
    refine rn_iald (zw_12_26 hW k_a0) hc2 zd_X12_evenings_0.2.1.2.2 ?_
    obtain ⟨M3, h4, h⟩ := zbd_e h
    refine rn_callVv (As := [.int (M (R a0 26) (ztn (M a0 18)))]) (rest := []) zl_X12_322 zm_X12_evening ⟨by decide, by decide⟩ (ci := 12) rfl rfl (by decide) k_a0 rfl rfl (Nat.le_of_ble_eq_true rfl) zd_X12_evenings_0.2.2.1.1 (ok_X12_evening hW k_a0 h4) ?_
    refine rn_iinc (v := (x2 + 1)) (ls' := [(2, .int (x2 + 1)), (0, .ref a0), (1, .int x1)]) 2 rfl rfl (by decide) rfl zd_X12_evenings_0.2.2.1.2 ?_
    refine rn_goto (tgt := 2) zd_X12_evenings_0.2.2.2.1 rfl ?_
    cases h
    exact rn_sub (ls' := [(0, .ref a0), (1, .int x1), (2, .int (x2 + 1))]) [1, 2, 0] rfl hk
def f_X12_evenings (R : zR) (M : zM) (a0 : Nat) (x1 : Int32) : Option (zM) :=
  zbd (zloop zN (fun v => b_X12_evenings_2 R v.2 a0 x1 v.1) ((0 : Int32), M)) fun e5 =>
  some e5
set_option maxRecDepth 4000 in
theorem ok_X12_evenings {G : zG} {K : zK} {R : zR} {M : zM} {L : zL} (hW : zWT R K) {a0 : Nat} {x1 : Int32} (k_a0 : K[a0]? = some (12, 61)) {M' : zM} (h : f_X12_evenings R M a0 x1 = some M') : Rm G mt_X12_evenings [.ref a0, .int x1] (M, L, R, K) none (M', L, R, K) := by
  refine rm_rn rfl rfl (Nat.le_of_ble_eq_true rfl) ?_
  show Rn G mt_X12_evenings 0 [(0, .ref a0), (1, .int x1)] [] (M, L, R, K) none (M', L, R, K)
  unfold f_X12_evenings at h
  refine rn_iconst (v := 0) zd_X12_evenings_0.1.1.1 rfl ?_
  refine rn_istore_n (q := 2) (ls' := [(2, .int (0 : Int32)), (0, .ref a0), (1, .int x1)]) (by decide) rfl zd_X12_evenings_0.1.1.2.1 ?_
  obtain ⟨e5, he5, h⟩ := zbd_e h
  refine rn_sub (ls' := [(0, .ref a0), (1, .int x1), (2, .int (0 : Int32))]) [1, 2, 0] rfl (zloop_ok (P := P_X12_evenings_2 G K R L a0 x1 none (M', L, R, K)) (Q := Q_X12_evenings_2 G K R L a0 x1 none (M', L, R, K)) (fun v x hx hq => ok_b_X12_evenings_2 hW k_a0 hx hq) _ _ _ he5 ?_)
  show Rn G mt_X12_evenings 26 [] [] (e5, L, R, K) none (M', L, R, K)
  cases h
  exact rn_vret zd_X12_evenings_0.2.2.2.2 rfl
def f_X12_house (R : zR) (M : zM) (a0 : Nat) (x1 : Int32) (x2 : Int32) : Option (Int32 × zM) :=
  zbd (f_X12_isHouse R M a0 x1) fun r1 =>
  if r1 = 0 then (
    some ((-1 : Int32), M)
  ) else (
    zbd (f_X12_copies R M a0) fun M4 =>
    if x2 = 0 then (
      zck (zin x1 60) <|
      some ((M4 (R a0 46) (ztn x1)), M4)
    ) else (
      if x2 = 1 then (
        zck (zin ((10 : Int32) + x1) 60) <|
        some ((M4 (R a0 46) (ztn ((10 : Int32) + x1))), M4)
      ) else (
        if x2 = 2 then (
          zbd (f_X12_shownOf R M4 a0 x1) fun r15 =>
          some (r15, M4)
        ) else (
          if x2 = 3 then (
            zbd (f_X12_gapOf R M4 a0 x1) fun r17 =>
            some (r17, M4)
          ) else (
            if x2 = 4 then (
              zbd2 (f_X12_wanted R M4 a0 x1) fun r19 M20 =>
              some (r19, M20)
            ) else (
              if x2 = 5 then (
                zck (zin ((20 : Int32) + x1) 60) <|
                some ((M4 (R a0 46) (ztn ((20 : Int32) + x1))), M4)
              ) else (
                if x2 = 6 then (
                  zck (zin ((30 : Int32) + x1) 60) <|
                  some ((M4 (R a0 46) (ztn ((30 : Int32) + x1))), M4)
                ) else (
                  some ((-1 : Int32), M4)
                )
              )
            )
          )
        )
      )
    )
  )
set_option maxRecDepth 4000 in
theorem ok_X12_house {G : zG} {K : zK} {R : zR} {M : zM} {L : zL} (hW : zWT R K) {a0 : Nat} {x1 : Int32} {x2 : Int32} (k_a0 : K[a0]? = some (12, 61)) {r' : Int32} {M' : zM} (h : f_X12_house R M a0 x1 x2 = some (r', M')) : Rm G mt_X12_house [.ref a0, .int x1, .int x2] (M, L, R, K) (some (.int r')) (M', L, R, K) := by
  refine rm_rn rfl rfl (Nat.le_of_ble_eq_true rfl) ?_
  show Rn G mt_X12_house 0 [(0, .ref a0), (1, .int x1), (2, .int x2)] [] (M, L, R, K) (some (.int r')) (M', L, R, K)
  unfold f_X12_house at h
  refine rn_aload_n (q := 0) 0 rfl zd_X12_house_0.1.1.1.1 ?_
  refine rn_iload_n (q := 1) 1 rfl zd_X12_house_0.1.1.1.2 ?_
  obtain ⟨r1, h2, h⟩ := zbd_e h
  refine rn_callVi (As := [.int x1]) (rest := []) zl_X12_325 zm_X12_isHouse ⟨by decide, by decide⟩ (ci := 12) rfl rfl (by decide) k_a0 rfl rfl (Nat.le_of_ble_eq_true rfl) zd_X12_house_0.1.1.2.1 (ok_X12_isHouse hW k_a0 h2) ?_
  rcases zif_e h with ⟨hc3, h⟩ | ⟨hc3, h⟩
  · refine rn_if_ne_f (tgt := 10) hc3 zd_X12_house_0.1.1.2.2 rfl ?_
    refine rn_iconst (v := -1) zd_X12_house_0.1.2.1.1 rfl ?_
    cases h
    exact rn_iret zd_X12_house_0.1.2.1.2 rfl
  · refine rn_if_ne_t (tgt := 10) hc3 zd_X12_house_0.1.1.2.2 rfl ?_
    refine rn_aload_n (q := 0) 0 rfl zd_X12_house_0.1.2.2.1 ?_
    obtain ⟨M4, h5, h⟩ := zbd_e h
    refine rn_callVv (As := []) (rest := []) zl_X12_328 zm_X12_copies ⟨by decide, by decide⟩ (ci := 12) rfl rfl (by decide) k_a0 rfl rfl (Nat.le_of_ble_eq_true rfl) zd_X12_house_0.1.2.2.2 (ok_X12_copies hW k_a0 h5) ?_
    refine rn_iload_n (q := 2) 2 rfl zd_X12_house_0.2.1.1.1 ?_
    rcases zif_e h with ⟨hc6, h⟩ | ⟨hc6, h⟩
    · refine rn_tblIn (v := 0) (tgt := 56) zd_X12_house_0.2.1.1.2 (by rw [hc6]; rfl) (by decide) (by decide) rfl rfl ?_
      refine rn_aload_n (q := 0) 0 rfl zd_X12_house_0.2.1.2.1 ?_
      refine rn_getR zf_X12_104 (Or.inr ⟨_, rfl⟩) k_a0 (zx_12_46 hW k_a0) zd_X12_house_0.2.1.2.2 ?_
      refine rn_iload_n (q := 1) 1 rfl zd_X12_house_0.2.2.1.1 ?_
      obtain ⟨hc13, h⟩ := zck_e h
      refine rn_iald (zw_12_46 hW k_a0) hc13 zd_X12_house_0.2.2.1.2 ?_
      cases h
      exact rn_iret zd_X12_house_0.2.2.2.1 rfl
    · rcases zif_e h with ⟨hc7, h⟩ | ⟨hc7, h⟩
      · refine rn_tblIn (v := 1) (tgt := 63) zd_X12_house_0.2.1.1.2 (by rw [hc7]; rfl) (by decide) (by decide) rfl rfl ?_
        refine rn_aload_n (q := 0) 0 rfl zd_X12_house_0.2.2.2.2 ?_
        refine rn_getR zf_X12_104 (Or.inr ⟨_, rfl⟩) k_a0 (zx_12_46 hW k_a0) zd_X12_house_1.1.1.1.1 ?_
        refine rn_bipush (v := 10) zd_X12_house_1.1.1.1.2 rfl ?_
        refine rn_iload_n (q := 1) 1 rfl zd_X12_house_1.1.1.2.1 ?_
        refine rn_iadd zd_X12_house_1.1.1.2.2 ?_
        obtain ⟨hc14, h⟩ := zck_e h
        refine rn_iald (zw_12_46 hW k_a0) hc14 zd_X12_house_1.1.2.1.1 ?_
        cases h
        exact rn_iret zd_X12_house_1.1.2.1.2 rfl
      · rcases zif_e h with ⟨hc8, h⟩ | ⟨hc8, h⟩
        · refine rn_tblIn (v := 2) (tgt := 73) zd_X12_house_0.2.1.1.2 (by rw [hc8]; rfl) (by decide) (by decide) rfl rfl ?_
          refine rn_aload_n (q := 0) 0 rfl zd_X12_house_1.1.2.2.1 ?_
          refine rn_iload_n (q := 1) 1 rfl zd_X12_house_1.1.2.2.2 ?_
          obtain ⟨r15, h16, h⟩ := zbd_e h
          refine rn_callVi (As := [.int x1]) (rest := []) zl_X12_280 zm_X12_shownOf ⟨by decide, by decide⟩ (ci := 12) rfl rfl (by decide) k_a0 rfl rfl (Nat.le_of_ble_eq_true rfl) zd_X12_house_1.2.1.1.1 (ok_X12_shownOf hW k_a0 h16) ?_
          cases h
          exact rn_iret zd_X12_house_1.2.1.1.2 rfl
        · rcases zif_e h with ⟨hc9, h⟩ | ⟨hc9, h⟩
          · refine rn_tblIn (v := 3) (tgt := 79) zd_X12_house_0.2.1.1.2 (by rw [hc9]; rfl) (by decide) (by decide) rfl rfl ?_
            refine rn_aload_n (q := 0) 0 rfl zd_X12_house_1.2.1.2.1 ?_
            refine rn_iload_n (q := 1) 1 rfl zd_X12_house_1.2.1.2.2 ?_
            obtain ⟨r17, h18, h⟩ := zbd_e h
            refine rn_callVi (As := [.int x1]) (rest := []) zl_X12_290 zm_X12_gapOf ⟨by decide, by decide⟩ (ci := 12) rfl rfl (by decide) k_a0 rfl rfl (Nat.le_of_ble_eq_true rfl) zd_X12_house_1.2.2.1.1 (ok_X12_gapOf hW k_a0 h18) ?_
            cases h
            exact rn_iret zd_X12_house_1.2.2.1.2 rfl
          · rcases zif_e h with ⟨hc10, h⟩ | ⟨hc10, h⟩
            · refine rn_tblIn (v := 4) (tgt := 85) zd_X12_house_0.2.1.1.2 (by rw [hc10]; rfl) (by decide) (by decide) rfl rfl ?_
              refine rn_aload_n (q := 0) 0 rfl zd_X12_house_1.2.2.2.1 ?_
              refine rn_iload_n (q := 1) 1 rfl zd_X12_house_1.2.2.2.2 ?_
              obtain ⟨r19, M20, h21, h⟩ := zbd2_e h
              refine rn_callVi (As := [.int x1]) (rest := []) zl_X12_303 zm_X12_wanted ⟨by decide, by decide⟩ (ci := 12) rfl rfl (by decide) k_a0 rfl rfl (Nat.le_of_ble_eq_true rfl) zd_X12_house_2.1.1.1.1 (ok_X12_wanted hW k_a0 h21) ?_
              cases h
              exact rn_iret zd_X12_house_2.1.1.1.2 rfl
            · rcases zif_e h with ⟨hc11, h⟩ | ⟨hc11, h⟩
              · refine rn_tblIn (v := 5) (tgt := 91) zd_X12_house_0.2.1.1.2 (by rw [hc11]; rfl) (by decide) (by decide) rfl rfl ?_
                refine rn_aload_n (q := 0) 0 rfl zd_X12_house_2.1.1.2.1 ?_
                refine rn_getR zf_X12_104 (Or.inr ⟨_, rfl⟩) k_a0 (zx_12_46 hW k_a0) zd_X12_house_2.1.1.2.2 ?_
                refine rn_bipush (v := 20) zd_X12_house_2.1.2.1.1 rfl ?_
                refine rn_iload_n (q := 1) 1 rfl zd_X12_house_2.1.2.1.2 ?_
                refine rn_iadd zd_X12_house_2.1.2.2.1 ?_
                obtain ⟨hc22, h⟩ := zck_e h
                refine rn_iald (zw_12_46 hW k_a0) hc22 zd_X12_house_2.1.2.2.2 ?_
                cases h
                exact rn_iret zd_X12_house_2.2.1.1.1 rfl
              · rcases zif_e h with ⟨hc12, h⟩ | ⟨hc12, h⟩
                · refine rn_tblIn (v := 6) (tgt := 101) zd_X12_house_0.2.1.1.2 (by rw [hc12]; rfl) (by decide) (by decide) rfl rfl ?_
                  refine rn_aload_n (q := 0) 0 rfl zd_X12_house_2.2.1.1.2 ?_
                  refine rn_getR zf_X12_104 (Or.inr ⟨_, rfl⟩) k_a0 (zx_12_46 hW k_a0) zd_X12_house_2.2.1.2.1 ?_
                  refine rn_bipush (v := 30) zd_X12_house_2.2.1.2.2 rfl ?_
                  refine rn_iload_n (q := 1) 1 rfl zd_X12_house_2.2.2.1.1 ?_
                  refine rn_iadd zd_X12_house_2.2.2.1.2 ?_
                  obtain ⟨hc23, h⟩ := zck_e h
                  refine rn_iald (zw_12_46 hW k_a0) hc23 zd_X12_house_2.2.2.2.1 ?_
                  cases h
                  exact rn_iret zd_X12_house_2.2.2.2.2 rfl
                · have ht : x2.toInt < 0 ∨ 6 < x2.toInt := by
                    have q0 := zto (n := 0) hc6 rfl
                    have q1 := zto (n := 1) hc7 rfl
                    have q2 := zto (n := 2) hc8 rfl
                    have q3 := zto (n := 3) hc9 rfl
                    have q4 := zto (n := 4) hc10 rfl
                    have q5 := zto (n := 5) hc11 rfl
                    have q6 := zto (n := 6) hc12 rfl
                    omega
                  refine rn_tblOut (tgt := 111) zd_X12_house_0.2.1.1.2 ht rfl ?_
                  refine rn_iconst (v := -1) zd_X12_house_3.1 rfl ?_
                  cases h
                  exact rn_iret zd_X12_house_3.2 rfl
abbrev P_X12_keeps_51 (G : zG) (K : zK) (R : zR) (L : zL) (a0 : Nat) (r : Option Value) (S' : zS) (v : Int32 × zM) : Prop := Rn G mt_X12_keeps 51 [(0, .ref a0), (1, .int v.1)] [] (v.2, L, R, K) r S'
abbrev Q_X12_keeps_51 (G : zG) (K : zK) (R : zR) (L : zL) (a0 : Nat) (r : Option Value) (S' : zS) : (zM) → Prop := (fun e => Rn G mt_X12_keeps 83 [(0, .ref a0)] [] (e, L, R, K) r S')
def b_X12_keeps_51 (R : zR) (M : zM) (a0 : Nat) (x1 : Int32) : Option ((Int32 × zM) ⊕ ((zM))) :=
  if (60 : Int32) ≤ x1 then (
    some (.inr M)
  ) else (
    zck (zin x1 60) <|
    zck (zin (((60 : Int32) * (M a0 48)) + x1) 1800) <|
    zlt (zup M (R a0 49) (ztn (((60 : Int32) * (M a0 48)) + x1)) (M (R a0 45) (ztn x1))) fun M5 =>
    some (.inl ((x1 + 1), M5))
  )
set_option maxRecDepth 4000 in
theorem ok_b_X12_keeps_51 {G : zG} {K : zK} {R : zR} {M : zM} {L : zL} (hW : zWT R K) {a0 : Nat} {x1 : Int32} (k_a0 : K[a0]? = some (12, 61)) {r : Option Value} {S' : zS} {x : (Int32 × zM) ⊕ ((zM))} (h : b_X12_keeps_51 R M a0 x1 = some x) (hk : Sum.elim (P_X12_keeps_51 G K R L a0 r S') (Q_X12_keeps_51 G K R L a0 r S') x) : P_X12_keeps_51 G K R L a0 r S' (x1, M) := by
  show Rn G mt_X12_keeps 51 [(0, .ref a0), (1, .int x1)] [] (M, L, R, K) r S'
  unfold b_X12_keeps_51 at h
  refine rn_iload_n (q := 1) 1 rfl zd_X12_keeps_1.2.2.1.2 ?_
  refine rn_bipush (v := 60) zd_X12_keeps_1.2.2.2.1 rfl ?_
  rcases zif_e h with ⟨hc2, h⟩ | ⟨hc2, h⟩
  · refine rn_icmp_ge_t (tgt := 83) hc2 zd_X12_keeps_1.2.2.2.2 rfl ?_
    cases h
    exact rn_sub (ls' := [(0, .ref a0)]) [0] rfl hk
  · refine rn_icmp_ge_f (tgt := 83) hc2 zd_X12_keeps_1.2.2.2.2 rfl ?_
    refine rn_aload_n (q := 0) 0 rfl zd_X12_keeps_2.1.1.1.1 ?_
    refine rn_getR zf_X12_110 (Or.inr ⟨_, rfl⟩) k_a0 (zx_12_49 hW k_a0) zd_X12_keeps_2.1.1.1.2 ?_
    refine rn_bipush (v := 60) zd_X12_keeps_2.1.1.2.1 rfl ?_
    refine rn_aload_n (q := 0) 0 rfl zd_X12_keeps_2.1.1.2.2 ?_
    refine rn_getI zf_X12_230 (Or.inl rfl) k_a0 zd_X12_keeps_2.1.2.1.1 ?_
    refine rn_imul zd_X12_keeps_2.1.2.1.2 ?_
    refine rn_iload_n (q := 1) 1 rfl zd_X12_keeps_2.1.2.2.1 ?_
    refine rn_iadd zd_X12_keeps_2.1.2.2.2 ?_
    refine rn_aload_n (q := 0) 0 rfl zd_X12_keeps_2.2.1.1.1 ?_
    refine rn_getR zf_X12_101 (Or.inr ⟨_, rfl⟩) k_a0 (zx_12_45 hW k_a0) zd_X12_keeps_2.2.1.1.2 ?_
    refine rn_iload_n (q := 1) 1 rfl zd_X12_keeps_2.2.1.2.1 ?_
    obtain ⟨hc3, h⟩ := zck_e h
    refine rn_iald (zw_12_45 hW k_a0) hc3 zd_X12_keeps_2.2.1.2.2 ?_
    obtain ⟨hc4, h⟩ := zck_e h
    obtain ⟨M5, hM5, h⟩ := zlt_e h
    refine rn_iast hM5 (zw_12_49 hW k_a0) hc4 zd_X12_keeps_2.2.2.1.1 ?_
    refine rn_iinc (v := (x1 + 1)) (ls' := [(1, .int (x1 + 1)), (0, .ref a0)]) 1 rfl rfl (by decide) rfl zd_X12_keeps_2.2.2.1.2 ?_
    refine rn_goto (tgt := 51) zd_X12_keeps_2.2.2.2.1 rfl ?_
    cases h
    exact rn_sub (ls' := [(0, .ref a0), (1, .int (x1 + 1))]) [1, 0] rfl hk
abbrev P_X12_keeps_95 (G : zG) (K : zK) (R : zR) (L : zL) (a0 : Nat) (r : Option Value) (S' : zS) (v : Int32 × zM) : Prop := Rn G mt_X12_keeps 95 [(0, .ref a0), (1, .int v.1)] [] (v.2, L, R, K) r S'
abbrev Q_X12_keeps_95 (G : zG) (K : zK) (R : zR) (L : zL) (a0 : Nat) (r : Option Value) (S' : zS) : (zM) → Prop := (fun e => Rn G mt_X12_keeps 119 [] [] (e, L, R, K) r S')
def b_X12_keeps_95 (R : zR) (M : zM) (a0 : Nat) (x1 : Int32) : Option ((Int32 × zM) ⊕ ((zM))) :=
  if (60 : Int32) ≤ x1 then (
    some (.inr M)
  ) else (
    zck (zin x1 60) <|
    zck (zin x1 60) <|
    zlt (zup M (R a0 45) (ztn x1) (M (R a0 46) (ztn x1))) fun M11 =>
    some (.inl ((x1 + 1), M11))
  )
set_option maxRecDepth 4000 in
theorem ok_b_X12_keeps_95 {G : zG} {K : zK} {R : zR} {M : zM} {L : zL} (hW : zWT R K) {a0 : Nat} {x1 : Int32} (k_a0 : K[a0]? = some (12, 61)) {r : Option Value} {S' : zS} {x : (Int32 × zM) ⊕ ((zM))} (h : b_X12_keeps_95 R M a0 x1 = some x) (hk : Sum.elim (P_X12_keeps_95 G K R L a0 r S') (Q_X12_keeps_95 G K R L a0 r S') x) : P_X12_keeps_95 G K R L a0 r S' (x1, M) := by
  show Rn G mt_X12_keeps 95 [(0, .ref a0), (1, .int x1)] [] (M, L, R, K) r S'
  unfold b_X12_keeps_95 at h
  refine rn_iload_n (q := 1) 1 rfl zd_X12_keeps_3.1.2.2.2 ?_
  refine rn_bipush (v := 60) zd_X12_keeps_3.2.1.1.1 rfl ?_
  rcases zif_e h with ⟨hc8, h⟩ | ⟨hc8, h⟩
  · refine rn_icmp_ge_t (tgt := 119) hc8 zd_X12_keeps_3.2.1.1.2 rfl ?_
    cases h
    exact rn_sub (ls' := []) [] rfl hk
  · refine rn_icmp_ge_f (tgt := 119) hc8 zd_X12_keeps_3.2.1.1.2 rfl ?_
    refine rn_aload_n (q := 0) 0 rfl zd_X12_keeps_3.2.1.2.1 ?_
    refine rn_getR zf_X12_101 (Or.inr ⟨_, rfl⟩) k_a0 (zx_12_45 hW k_a0) zd_X12_keeps_3.2.1.2.2 ?_
    refine rn_iload_n (q := 1) 1 rfl zd_X12_keeps_3.2.2.1.1 ?_
    refine rn_aload_n (q := 0) 0 rfl zd_X12_keeps_3.2.2.1.2 ?_
    refine rn_getR zf_X12_104 (Or.inr ⟨_, rfl⟩) k_a0 (zx_12_46 hW k_a0) zd_X12_keeps_3.2.2.2.1 ?_
    refine rn_iload_n (q := 1) 1 rfl zd_X12_keeps_3.2.2.2.2 ?_
    obtain ⟨hc9, h⟩ := zck_e h
    refine rn_iald (zw_12_46 hW k_a0) hc9 zd_X12_keeps_4.1.1 ?_
    obtain ⟨hc10, h⟩ := zck_e h
    obtain ⟨M11, hM11, h⟩ := zlt_e h
    refine rn_iast hM11 (zw_12_45 hW k_a0) hc10 zd_X12_keeps_4.1.2 ?_
    refine rn_iinc (v := (x1 + 1)) (ls' := [(1, .int (x1 + 1)), (0, .ref a0)]) 1 rfl rfl (by decide) rfl zd_X12_keeps_4.2.1 ?_
    refine rn_goto (tgt := 95) zd_X12_keeps_4.2.2.1 rfl ?_
    cases h
    exact rn_sub (ls' := [(0, .ref a0), (1, .int (x1 + 1))]) [1, 0] rfl hk
abbrev P_X12_keeps_11 (G : zG) (K : zK) (R : zR) (L : zL) (a0 : Nat) (r : Option Value) (S' : zS) (v : Int32 × zM) : Prop := Rn G mt_X12_keeps 11 [(0, .ref a0), (1, .int v.1)] [] (v.2, L, R, K) r S'
abbrev Q_X12_keeps_11 (G : zG) (K : zK) (R : zR) (L : zL) (a0 : Nat) (r : Option Value) (S' : zS) : (zM) → Prop := (fun e => Rn G mt_X12_keeps 39 [(0, .ref a0)] [] (e, L, R, K) r S')
def b_X12_keeps_11 (R : zR) (M : zM) (a0 : Nat) (x1 : Int32) : Option ((Int32 × zM) ⊕ ((zM))) :=
  if (1740 : Int32) ≤ x1 then (
    some (.inr M)
  ) else (
    zck (zin (x1 + (60 : Int32)) 1800) <|
    zck (zin x1 1800) <|
    zlt (zup M (R a0 49) (ztn x1) (M (R a0 49) (ztn (x1 + (60 : Int32))))) fun M16 =>
    some (.inl ((x1 + 1), M16))
  )
set_option maxRecDepth 4000 in
theorem ok_b_X12_keeps_11 {G : zG} {K : zK} {R : zR} {M : zM} {L : zL} (hW : zWT R K) {a0 : Nat} {x1 : Int32} (k_a0 : K[a0]? = some (12, 61)) {r : Option Value} {S' : zS} {x : (Int32 × zM) ⊕ ((zM))} (h : b_X12_keeps_11 R M a0 x1 = some x) (hk : Sum.elim (P_X12_keeps_11 G K R L a0 r S') (Q_X12_keeps_11 G K R L a0 r S') x) : P_X12_keeps_11 G K R L a0 r S' (x1, M) := by
  show Rn G mt_X12_keeps 11 [(0, .ref a0), (1, .int x1)] [] (M, L, R, K) r S'
  unfold b_X12_keeps_11 at h
  refine rn_iload_n (q := 1) 1 rfl zd_X12_keeps_0.1.2.2.1 ?_
  refine rn_sipush (v := 1740) zd_X12_keeps_0.1.2.2.2 rfl ?_
  rcases zif_e h with ⟨hc13, h⟩ | ⟨hc13, h⟩
  · refine rn_icmp_ge_t (tgt := 39) hc13 zd_X12_keeps_0.2.1.1.1 rfl ?_
    cases h
    exact rn_sub (ls' := [(0, .ref a0)]) [0] rfl hk
  · refine rn_icmp_ge_f (tgt := 39) hc13 zd_X12_keeps_0.2.1.1.1 rfl ?_
    refine rn_aload_n (q := 0) 0 rfl zd_X12_keeps_0.2.1.1.2 ?_
    refine rn_getR zf_X12_110 (Or.inr ⟨_, rfl⟩) k_a0 (zx_12_49 hW k_a0) zd_X12_keeps_0.2.1.2.1 ?_
    refine rn_iload_n (q := 1) 1 rfl zd_X12_keeps_0.2.1.2.2 ?_
    refine rn_aload_n (q := 0) 0 rfl zd_X12_keeps_0.2.2.1.1 ?_
    refine rn_getR zf_X12_110 (Or.inr ⟨_, rfl⟩) k_a0 (zx_12_49 hW k_a0) zd_X12_keeps_0.2.2.1.2 ?_
    refine rn_iload_n (q := 1) 1 rfl zd_X12_keeps_0.2.2.2.1 ?_
    refine rn_bipush (v := 60) zd_X12_keeps_0.2.2.2.2 rfl ?_
    refine rn_iadd zd_X12_keeps_1.1.1.1.1 ?_
    obtain ⟨hc14, h⟩ := zck_e h
    refine rn_iald (zw_12_49 hW k_a0) hc14 zd_X12_keeps_1.1.1.1.2 ?_
    obtain ⟨hc15, h⟩ := zck_e h
    obtain ⟨M16, hM16, h⟩ := zlt_e h
    refine rn_iast hM16 (zw_12_49 hW k_a0) hc15 zd_X12_keeps_1.1.1.2.1 ?_
    refine rn_iinc (v := (x1 + 1)) (ls' := [(1, .int (x1 + 1)), (0, .ref a0)]) 1 rfl rfl (by decide) rfl zd_X12_keeps_1.1.1.2.2 ?_
    refine rn_goto (tgt := 11) zd_X12_keeps_1.1.2.1.1 rfl ?_
    cases h
    exact rn_sub (ls' := [(0, .ref a0), (1, .int (x1 + 1))]) [1, 0] rfl hk
def f_X12_keeps (R : zR) (M : zM) (a0 : Nat) : Option (zM) :=
  if (M a0 48) = (30 : Int32) then (
    zbd (zloop zN (fun v => b_X12_keeps_11 R v.2 a0 v.1) ((0 : Int32), M)) fun e17 =>
    zlt (zup e17 a0 48 ((e17 a0 48) - (1 : Int32))) fun M18 =>
    zbd (zloop zN (fun v => b_X12_keeps_51 R v.2 a0 v.1) ((0 : Int32), M18)) fun e19 =>
    zlt (zup e19 a0 48 ((e19 a0 48) + (1 : Int32))) fun M20 =>
    zbd (zloop zN (fun v => b_X12_keeps_95 R v.2 a0 v.1) ((0 : Int32), M20)) fun e21 =>
    some e21
  ) else (
    zbd (zloop zN (fun v => b_X12_keeps_51 R v.2 a0 v.1) ((0 : Int32), M)) fun e6 =>
    zlt (zup e6 a0 48 ((e6 a0 48) + (1 : Int32))) fun M7 =>
    zbd (zloop zN (fun v => b_X12_keeps_95 R v.2 a0 v.1) ((0 : Int32), M7)) fun e12 =>
    some e12
  )
set_option maxRecDepth 4000 in
theorem ok_X12_keeps {G : zG} {K : zK} {R : zR} {M : zM} {L : zL} (hW : zWT R K) {a0 : Nat} (k_a0 : K[a0]? = some (12, 61)) {M' : zM} (h : f_X12_keeps R M a0 = some M') : Rm G mt_X12_keeps [.ref a0] (M, L, R, K) none (M', L, R, K) := by
  refine rm_rn rfl rfl (Nat.le_of_ble_eq_true rfl) ?_
  show Rn G mt_X12_keeps 0 [(0, .ref a0)] [] (M, L, R, K) none (M', L, R, K)
  unfold f_X12_keeps at h
  refine rn_aload_n (q := 0) 0 rfl zd_X12_keeps_0.1.1.1.1 ?_
  refine rn_getI zf_X12_230 (Or.inl rfl) k_a0 zd_X12_keeps_0.1.1.1.2 ?_
  refine rn_bipush (v := 30) zd_X12_keeps_0.1.1.2.1 rfl ?_
  rcases zif_e h with ⟨hc1, h⟩ | ⟨hc1, h⟩
  · refine rn_icmp_ne_f (tgt := 49) hc1 zd_X12_keeps_0.1.1.2.2 rfl ?_
    refine rn_iconst (v := 0) zd_X12_keeps_0.1.2.1.1 rfl ?_
    refine rn_istore_n (q := 1) (ls' := [(1, .int (0 : Int32)), (0, .ref a0)]) (by decide) rfl zd_X12_keeps_0.1.2.1.2 ?_
    obtain ⟨e17, he17, h⟩ := zbd_e h
    refine rn_sub (ls' := [(0, .ref a0), (1, .int (0 : Int32))]) [1, 0] rfl (zloop_ok (P := P_X12_keeps_11 G K R L a0 none (M', L, R, K)) (Q := Q_X12_keeps_11 G K R L a0 none (M', L, R, K)) (fun v x hx hq => ok_b_X12_keeps_11 hW k_a0 hx hq) _ _ _ he17 ?_)
    show Rn G mt_X12_keeps 39 [(0, .ref a0)] [] (e17, L, R, K) none (M', L, R, K)
    refine rn_aload_n (q := 0) 0 rfl zd_X12_keeps_1.1.2.1.2 ?_
    refine rn_dup zd_X12_keeps_1.1.2.2.1 rfl ?_
    refine rn_getI zf_X12_230 (Or.inl rfl) k_a0 zd_X12_keeps_1.1.2.2.2 ?_
    refine rn_iconst (v := 1) zd_X12_keeps_1.2.1.1.1 rfl ?_
    refine rn_isub zd_X12_keeps_1.2.1.1.2 ?_
    obtain ⟨M18, hM18, h⟩ := zlt_e h
    refine rn_putI hM18 zf_X12_230 k_a0 zd_X12_keeps_1.2.1.2.1 ?_
    refine rn_iconst (v := 0) zd_X12_keeps_1.2.1.2.2 rfl ?_
    refine rn_istore_n (q := 1) (ls' := [(1, .int (0 : Int32)), (0, .ref a0)]) (by decide) rfl zd_X12_keeps_1.2.2.1.1 ?_
    obtain ⟨e19, he19, h⟩ := zbd_e h
    refine rn_sub (ls' := [(0, .ref a0), (1, .int (0 : Int32))]) [1, 0] rfl (zloop_ok (P := P_X12_keeps_51 G K R L a0 none (M', L, R, K)) (Q := Q_X12_keeps_51 G K R L a0 none (M', L, R, K)) (fun v x hx hq => ok_b_X12_keeps_51 hW k_a0 hx hq) _ _ _ he19 ?_)
    show Rn G mt_X12_keeps 83 [(0, .ref a0)] [] (e19, L, R, K) none (M', L, R, K)
    refine rn_aload_n (q := 0) 0 rfl zd_X12_keeps_2.2.2.2.2 ?_
    refine rn_dup zd_X12_keeps_3.1.1.1.1 rfl ?_
    refine rn_getI zf_X12_230 (Or.inl rfl) k_a0 zd_X12_keeps_3.1.1.1.2 ?_
    refine rn_iconst (v := 1) zd_X12_keeps_3.1.1.2.1 rfl ?_
    refine rn_iadd zd_X12_keeps_3.1.1.2.2 ?_
    obtain ⟨M20, hM20, h⟩ := zlt_e h
    refine rn_putI hM20 zf_X12_230 k_a0 zd_X12_keeps_3.1.2.1.1 ?_
    refine rn_iconst (v := 0) zd_X12_keeps_3.1.2.1.2 rfl ?_
    refine rn_istore_n (q := 1) (ls' := [(1, .int (0 : Int32)), (0, .ref a0)]) (by decide) rfl zd_X12_keeps_3.1.2.2.1 ?_
    obtain ⟨e21, he21, h⟩ := zbd_e h
    refine rn_sub (ls' := [(0, .ref a0), (1, .int (0 : Int32))]) [1, 0] rfl (zloop_ok (P := P_X12_keeps_95 G K R L a0 none (M', L, R, K)) (Q := Q_X12_keeps_95 G K R L a0 none (M', L, R, K)) (fun v x hx hq => ok_b_X12_keeps_95 hW k_a0 hx hq) _ _ _ he21 ?_)
    show Rn G mt_X12_keeps 119 [] [] (e21, L, R, K) none (M', L, R, K)
    cases h
    exact rn_vret zd_X12_keeps_4.2.2.2 rfl
  · refine rn_icmp_ne_t (tgt := 49) hc1 zd_X12_keeps_0.1.1.2.2 rfl ?_
    refine rn_iconst (v := 0) zd_X12_keeps_1.2.1.2.2 rfl ?_
    refine rn_istore_n (q := 1) (ls' := [(1, .int (0 : Int32)), (0, .ref a0)]) (by decide) rfl zd_X12_keeps_1.2.2.1.1 ?_
    obtain ⟨e6, he6, h⟩ := zbd_e h
    refine rn_sub (ls' := [(0, .ref a0), (1, .int (0 : Int32))]) [1, 0] rfl (zloop_ok (P := P_X12_keeps_51 G K R L a0 none (M', L, R, K)) (Q := Q_X12_keeps_51 G K R L a0 none (M', L, R, K)) (fun v x hx hq => ok_b_X12_keeps_51 hW k_a0 hx hq) _ _ _ he6 ?_)
    show Rn G mt_X12_keeps 83 [(0, .ref a0)] [] (e6, L, R, K) none (M', L, R, K)
    refine rn_aload_n (q := 0) 0 rfl zd_X12_keeps_2.2.2.2.2 ?_
    refine rn_dup zd_X12_keeps_3.1.1.1.1 rfl ?_
    refine rn_getI zf_X12_230 (Or.inl rfl) k_a0 zd_X12_keeps_3.1.1.1.2 ?_
    refine rn_iconst (v := 1) zd_X12_keeps_3.1.1.2.1 rfl ?_
    refine rn_iadd zd_X12_keeps_3.1.1.2.2 ?_
    obtain ⟨M7, hM7, h⟩ := zlt_e h
    refine rn_putI hM7 zf_X12_230 k_a0 zd_X12_keeps_3.1.2.1.1 ?_
    refine rn_iconst (v := 0) zd_X12_keeps_3.1.2.1.2 rfl ?_
    refine rn_istore_n (q := 1) (ls' := [(1, .int (0 : Int32)), (0, .ref a0)]) (by decide) rfl zd_X12_keeps_3.1.2.2.1 ?_
    obtain ⟨e12, he12, h⟩ := zbd_e h
    refine rn_sub (ls' := [(0, .ref a0), (1, .int (0 : Int32))]) [1, 0] rfl (zloop_ok (P := P_X12_keeps_95 G K R L a0 none (M', L, R, K)) (Q := Q_X12_keeps_95 G K R L a0 none (M', L, R, K)) (fun v x hx hq => ok_b_X12_keeps_95 hW k_a0 hx hq) _ _ _ he12 ?_)
    show Rn G mt_X12_keeps 119 [] [] (e12, L, R, K) none (M', L, R, K)
    cases h
    exact rn_vret zd_X12_keeps_4.2.2.2 rfl
def f_X12_run (R : zR) (M : zM) (a0 : Nat) (x1 : Int32) : Option (Int32 × zM) :=
  zbd (f_X12_in x1 (0 : Int32) (300 : Int32)) fun r1 =>
  if r1 = 0 then (
    some ((-1 : Int32), M)
  ) else (
    if x1 = 0 then (
      some ((M (R a0 45) (ztn (42 : Int32))), M)
    ) else (
      zbd (f_X12_copies R M a0) fun M5 =>
      zbd (f_X12_evenings R M5 a0 x1) fun M7 =>
      zbd (f_X12_keeps R M7 a0) fun M9 =>
      some ((M9 (R a0 45) (ztn (42 : Int32))), M9)
    )
  )
set_option maxRecDepth 4000 in
theorem ok_X12_run {G : zG} {K : zK} {R : zR} {M : zM} {L : zL} (hW : zWT R K) {a0 : Nat} {x1 : Int32} (k_a0 : K[a0]? = some (12, 61)) {r' : Int32} {M' : zM} (h : f_X12_run R M a0 x1 = some (r', M')) : Rm G mt_X12_run [.ref a0, .int x1] (M, L, R, K) (some (.int r')) (M', L, R, K) := by
  refine rm_rn rfl rfl (Nat.le_of_ble_eq_true rfl) ?_
  show Rn G mt_X12_run 0 [(0, .ref a0), (1, .int x1)] [] (M, L, R, K) (some (.int r')) (M', L, R, K)
  unfold f_X12_run at h
  refine rn_iload_n (q := 1) 1 rfl zd_X12_run_0.1.1.1.1 ?_
  refine rn_iconst (v := 0) zd_X12_run_0.1.1.1.2 rfl ?_
  refine rn_sipush (v := 300) zd_X12_run_0.1.1.2.1 rfl ?_
  obtain ⟨r1, h2, h⟩ := zbd_e h
  refine rn_callSi (As := [.int x1, .int (0 : Int32), .int (300 : Int32)]) (rest := []) zl_X12_276 zm_X12_in ⟨by decide, by decide⟩ rfl rfl (Nat.le_of_ble_eq_true rfl) zd_X12_run_0.1.1.2.2 (ok_X12_in hW h2) ?_
  rcases zif_e h with ⟨hc3, h⟩ | ⟨hc3, h⟩
  · refine rn_if_ne_f (tgt := 13) hc3 zd_X12_run_0.1.2.1.1 rfl ?_
    refine rn_iconst (v := -1) zd_X12_run_0.1.2.1.2 rfl ?_
    cases h
    exact rn_iret zd_X12_run_0.1.2.2.1 rfl
  · refine rn_if_ne_t (tgt := 13) hc3 zd_X12_run_0.1.2.1.1 rfl ?_
    refine rn_iload_n (q := 1) 1 rfl zd_X12_run_0.1.2.2.2 ?_
    rcases zif_e h with ⟨hc4, h⟩ | ⟨hc4, h⟩
    · refine rn_if_ne_f (tgt := 25) hc4 zd_X12_run_0.2.1.1.1 rfl ?_
      refine rn_aload_n (q := 0) 0 rfl zd_X12_run_0.2.1.1.2 ?_
      refine rn_getR zf_X12_101 (Or.inr ⟨_, rfl⟩) k_a0 (zx_12_45 hW k_a0) zd_X12_run_0.2.1.2.1 ?_
      refine rn_bipush (v := 42) zd_X12_run_0.2.1.2.2 rfl ?_
      refine rn_iald (zw_12_45 hW k_a0) (by decide) zd_X12_run_0.2.2.1.1 ?_
      cases h
      exact rn_iret zd_X12_run_0.2.2.1.2 rfl
    · refine rn_if_ne_t (tgt := 25) hc4 zd_X12_run_0.2.1.1.1 rfl ?_
      refine rn_aload_n (q := 0) 0 rfl zd_X12_run_0.2.2.2.1 ?_
      obtain ⟨M5, h6, h⟩ := zbd_e h
      refine rn_callVv (As := []) (rest := []) zl_X12_328 zm_X12_copies ⟨by decide, by decide⟩ (ci := 12) rfl rfl (by decide) k_a0 rfl rfl (Nat.le_of_ble_eq_true rfl) zd_X12_run_0.2.2.2.2 (ok_X12_copies hW k_a0 h6) ?_
      refine rn_aload_n (q := 0) 0 rfl zd_X12_run_1.1.1.1 ?_
      refine rn_iload_n (q := 1) 1 rfl zd_X12_run_1.1.1.2 ?_
      obtain ⟨M7, h8, h⟩ := zbd_e h
      refine rn_callVv (As := [.int x1]) (rest := []) zl_X12_331 zm_X12_evenings ⟨by decide, by decide⟩ (ci := 12) rfl rfl (by decide) k_a0 rfl rfl (Nat.le_of_ble_eq_true rfl) zd_X12_run_1.1.2.1 (ok_X12_evenings hW k_a0 h8) ?_
      refine rn_aload_n (q := 0) 0 rfl zd_X12_run_1.1.2.2.1 ?_
      obtain ⟨M9, h10, h⟩ := zbd_e h
      refine rn_callVv (As := []) (rest := []) zl_X12_334 zm_X12_keeps ⟨by decide, by decide⟩ (ci := 12) rfl rfl (by decide) k_a0 rfl rfl (Nat.le_of_ble_eq_true rfl) zd_X12_run_1.1.2.2.2 (ok_X12_keeps hW k_a0 h10) ?_
      refine rn_aload_n (q := 0) 0 rfl zd_X12_run_1.2.1.1 ?_
      refine rn_getR zf_X12_101 (Or.inr ⟨_, rfl⟩) k_a0 (zx_12_45 hW k_a0) zd_X12_run_1.2.1.2 ?_
      refine rn_bipush (v := 42) zd_X12_run_1.2.2.1 rfl ?_
      refine rn_iald (zw_12_45 hW k_a0) (by decide) zd_X12_run_1.2.2.2.1 ?_
      cases h
      exact rn_iret zd_X12_run_1.2.2.2.2 rfl
def f_X12_give (R : zR) (M : zM) (a0 : Nat) (x1 : Int32) (x2 : Int32) (x3 : Int32) : Option (Int32 × zM) :=
  zbd (f_X12_isHouse R M a0 x1) fun r1 =>
  if r1 = 0 then (
    some ((0 : Int32), M)
  ) else (
    zbd (f_X12_isHouse R M a0 x2) fun r4 =>
    if r4 = 0 then (
      some ((0 : Int32), M)
    ) else (
      if x1 = x2 then (
        some ((0 : Int32), M)
      ) else (
        if 0 ≤ x3 then (
          zbd (f_X12_copies R M a0) fun M9 =>
          zbd (f_X12_shownOf R M9 a0 x1) fun r11 =>
          if x3 ≤ r11 then (
            zck (zin x1 60) <|
            zck (zin x1 60) <|
            zlt (zup M9 (R a0 46) (ztn x1) ((M9 (R a0 46) (ztn x1)) - x3)) fun M16 =>
            zck (zin x2 60) <|
            zck (zin x2 60) <|
            zlt (zup M16 (R a0 46) (ztn x2) ((M16 (R a0 46) (ztn x2)) + x3)) fun M19 =>
            zbd (f_X12_keeps R M19 a0) fun M20 =>
            some ((1 : Int32), M20)
          ) else (
            some ((0 : Int32), M9)
          )
        ) else (
          some ((0 : Int32), M)
        )
      )
    )
  )
set_option maxRecDepth 4000 in
theorem ok_X12_give {G : zG} {K : zK} {R : zR} {M : zM} {L : zL} (hW : zWT R K) {a0 : Nat} {x1 : Int32} {x2 : Int32} {x3 : Int32} (k_a0 : K[a0]? = some (12, 61)) {r' : Int32} {M' : zM} (h : f_X12_give R M a0 x1 x2 x3 = some (r', M')) : Rm G mt_X12_give [.ref a0, .int x1, .int x2, .int x3] (M, L, R, K) (some (.int r')) (M', L, R, K) := by
  refine rm_rn rfl rfl (Nat.le_of_ble_eq_true rfl) ?_
  show Rn G mt_X12_give 0 [(0, .ref a0), (1, .int x1), (2, .int x2), (3, .int x3)] [] (M, L, R, K) (some (.int r')) (M', L, R, K)
  unfold f_X12_give at h
  refine rn_aload_n (q := 0) 0 rfl zd_X12_give_0.1.1.1.1 ?_
  refine rn_iload_n (q := 1) 1 rfl zd_X12_give_0.1.1.1.2 ?_
  obtain ⟨r1, h2, h⟩ := zbd_e h
  refine rn_callVi (As := [.int x1]) (rest := []) zl_X12_325 zm_X12_isHouse ⟨by decide, by decide⟩ (ci := 12) rfl rfl (by decide) k_a0 rfl rfl (Nat.le_of_ble_eq_true rfl) zd_X12_give_0.1.1.2.1 (ok_X12_isHouse hW k_a0 h2) ?_
  rcases zif_e h with ⟨hc3, h⟩ | ⟨hc3, h⟩
  · refine rn_if_eq_t (tgt := 25) hc3 zd_X12_give_0.1.1.2.2 rfl ?_
    refine rn_iconst (v := 0) zd_X12_give_0.2.2.1.2 rfl ?_
    cases h
    exact rn_zret zd_X12_give_0.2.2.2.1 rfl rfl
  · refine rn_if_eq_f (tgt := 25) hc3 zd_X12_give_0.1.1.2.2 rfl ?_
    refine rn_aload_n (q := 0) 0 rfl zd_X12_give_0.1.2.1.1 ?_
    refine rn_iload_n (q := 2) 2 rfl zd_X12_give_0.1.2.1.2 ?_
    obtain ⟨r4, h5, h⟩ := zbd_e h
    refine rn_callVi (As := [.int x2]) (rest := []) zl_X12_325 zm_X12_isHouse ⟨by decide, by decide⟩ (ci := 12) rfl rfl (by decide) k_a0 rfl rfl (Nat.le_of_ble_eq_true rfl) zd_X12_give_0.1.2.2.1 (ok_X12_isHouse hW k_a0 h5) ?_
    rcases zif_e h with ⟨hc6, h⟩ | ⟨hc6, h⟩
    · refine rn_if_eq_t (tgt := 25) hc6 zd_X12_give_0.1.2.2.2 rfl ?_
      refine rn_iconst (v := 0) zd_X12_give_0.2.2.1.2 rfl ?_
      cases h
      exact rn_zret zd_X12_give_0.2.2.2.1 rfl rfl
    · refine rn_if_eq_f (tgt := 25) hc6 zd_X12_give_0.1.2.2.2 rfl ?_
      refine rn_iload_n (q := 1) 1 rfl zd_X12_give_0.2.1.1.1 ?_
      refine rn_iload_n (q := 2) 2 rfl zd_X12_give_0.2.1.1.2 ?_
      rcases zif_e h with ⟨hc7, h⟩ | ⟨hc7, h⟩
      · refine rn_icmp_eq_t (tgt := 25) hc7 zd_X12_give_0.2.1.2.1 rfl ?_
        refine rn_iconst (v := 0) zd_X12_give_0.2.2.1.2 rfl ?_
        cases h
        exact rn_zret zd_X12_give_0.2.2.2.1 rfl rfl
      · refine rn_icmp_eq_f (tgt := 25) hc7 zd_X12_give_0.2.1.2.1 rfl ?_
        refine rn_iload_n (q := 3) 3 rfl zd_X12_give_0.2.1.2.2 ?_
        rcases zif_e h with ⟨hc8, h⟩ | ⟨hc8, h⟩
        · refine rn_if_ge_t (tgt := 27) hc8 zd_X12_give_0.2.2.1.1 rfl ?_
          refine rn_aload_n (q := 0) 0 rfl zd_X12_give_0.2.2.2.2 ?_
          obtain ⟨M9, h10, h⟩ := zbd_e h
          refine rn_callVv (As := []) (rest := []) zl_X12_328 zm_X12_copies ⟨by decide, by decide⟩ (ci := 12) rfl rfl (by decide) k_a0 rfl rfl (Nat.le_of_ble_eq_true rfl) zd_X12_give_1.1.1.1.1 (ok_X12_copies hW k_a0 h10) ?_
          refine rn_iload_n (q := 3) 3 rfl zd_X12_give_1.1.1.1.2 ?_
          refine rn_aload_n (q := 0) 0 rfl zd_X12_give_1.1.1.2.1 ?_
          refine rn_iload_n (q := 1) 1 rfl zd_X12_give_1.1.1.2.2 ?_
          obtain ⟨r11, h12, h⟩ := zbd_e h
          refine rn_callVi (As := [.int x1]) (rest := [.int x3]) zl_X12_280 zm_X12_shownOf ⟨by decide, by decide⟩ (ci := 12) rfl rfl (by decide) k_a0 rfl rfl (Nat.le_of_ble_eq_true rfl) zd_X12_give_1.1.2.1.1 (ok_X12_shownOf hW k_a0 h12) ?_
          rcases zif_e h with ⟨hc13, h⟩ | ⟨hc13, h⟩
          · refine rn_icmp_le_t (tgt := 42) hc13 zd_X12_give_1.1.2.1.2 rfl ?_
            refine rn_aload_n (q := 0) 0 rfl zd_X12_give_1.2.1.1.1 ?_
            refine rn_getR zf_X12_104 (Or.inr ⟨_, rfl⟩) k_a0 (zx_12_46 hW k_a0) zd_X12_give_1.2.1.1.2 ?_
            refine rn_iload_n (q := 1) 1 rfl zd_X12_give_1.2.1.2.1 ?_
            refine rn_dup2 zd_X12_give_1.2.1.2.2 rfl rfl ?_
            obtain ⟨hc14, h⟩ := zck_e h
            refine rn_iald (zw_12_46 hW k_a0) hc14 zd_X12_give_1.2.2.1.1 ?_
            refine rn_iload_n (q := 3) 3 rfl zd_X12_give_1.2.2.1.2 ?_
            refine rn_isub zd_X12_give_1.2.2.2.1 ?_
            obtain ⟨hc15, h⟩ := zck_e h
            obtain ⟨M16, hM16, h⟩ := zlt_e h
            refine rn_iast hM16 (zw_12_46 hW k_a0) hc15 zd_X12_give_1.2.2.2.2 ?_
            refine rn_aload_n (q := 0) 0 rfl zd_X12_give_2.1.1.1 ?_
            refine rn_getR zf_X12_104 (Or.inr ⟨_, rfl⟩) k_a0 (zx_12_46 hW k_a0) zd_X12_give_2.1.1.2.1 ?_
            refine rn_iload_n (q := 2) 2 rfl zd_X12_give_2.1.1.2.2 ?_
            refine rn_dup2 zd_X12_give_2.1.2.1 rfl rfl ?_
            obtain ⟨hc17, h⟩ := zck_e h
            refine rn_iald (zw_12_46 hW k_a0) hc17 zd_X12_give_2.1.2.2.1 ?_
            refine rn_iload_n (q := 3) 3 rfl zd_X12_give_2.1.2.2.2 ?_
            refine rn_iadd zd_X12_give_2.2.1.1 ?_
            obtain ⟨hc18, h⟩ := zck_e h
            obtain ⟨M19, hM19, h⟩ := zlt_e h
            refine rn_iast hM19 (zw_12_46 hW k_a0) hc18 zd_X12_give_2.2.1.2.1 ?_
            refine rn_aload_n (q := 0) 0 rfl zd_X12_give_2.2.1.2.2 ?_
            obtain ⟨M20, h21, h⟩ := zbd_e h
            refine rn_callVv (As := []) (rest := []) zl_X12_334 zm_X12_keeps ⟨by decide, by decide⟩ (ci := 12) rfl rfl (by decide) k_a0 rfl rfl (Nat.le_of_ble_eq_true rfl) zd_X12_give_2.2.2.1 (ok_X12_keeps hW k_a0 h21) ?_
            refine rn_iconst (v := 1) zd_X12_give_2.2.2.2.1 rfl ?_
            cases h
            exact rn_zret zd_X12_give_2.2.2.2.2 rfl rfl
          · refine rn_icmp_le_f (tgt := 42) hc13 zd_X12_give_1.1.2.1.2 rfl ?_
            refine rn_iconst (v := 0) zd_X12_give_1.1.2.2.1 rfl ?_
            cases h
            exact rn_zret zd_X12_give_1.1.2.2.2 rfl rfl
        · refine rn_if_ge_f (tgt := 27) hc8 zd_X12_give_0.2.2.1.1 rfl ?_
          refine rn_iconst (v := 0) zd_X12_give_0.2.2.1.2 rfl ?_
          cases h
          exact rn_zret zd_X12_give_0.2.2.2.1 rfl rfl
def f_X12_hide (R : zR) (M : zM) (a0 : Nat) (x1 : Int32) (x2 : Int32) : Option (Int32 × zM) :=
  zbd (f_X12_isHouse R M a0 x1) fun r1 =>
  if r1 = 0 then (
    some ((0 : Int32), M)
  ) else (
    zck (zin x1 60) <|
    zbd (f_X12_in x2 (0 : Int32) (M (R a0 45) (ztn x1))) fun r5 =>
    if r5 = 0 then (
      some ((0 : Int32), M)
    ) else (
      zbd (f_X12_copies R M a0) fun M8 =>
      zck (zin ((10 : Int32) + x1) 60) <|
      zlt (zup M8 (R a0 46) (ztn ((10 : Int32) + x1)) x2) fun M11 =>
      zbd (f_X12_keeps R M11 a0) fun M12 =>
      some ((1 : Int32), M12)
    )
  )
set_option maxRecDepth 4000 in
theorem ok_X12_hide {G : zG} {K : zK} {R : zR} {M : zM} {L : zL} (hW : zWT R K) {a0 : Nat} {x1 : Int32} {x2 : Int32} (k_a0 : K[a0]? = some (12, 61)) {r' : Int32} {M' : zM} (h : f_X12_hide R M a0 x1 x2 = some (r', M')) : Rm G mt_X12_hide [.ref a0, .int x1, .int x2] (M, L, R, K) (some (.int r')) (M', L, R, K) := by
  refine rm_rn rfl rfl (Nat.le_of_ble_eq_true rfl) ?_
  show Rn G mt_X12_hide 0 [(0, .ref a0), (1, .int x1), (2, .int x2)] [] (M, L, R, K) (some (.int r')) (M', L, R, K)
  unfold f_X12_hide at h
  refine rn_aload_n (q := 0) 0 rfl zd_X12_hide_0.1.1.1.1 ?_
  refine rn_iload_n (q := 1) 1 rfl zd_X12_hide_0.1.1.1.2 ?_
  obtain ⟨r1, h2, h⟩ := zbd_e h
  refine rn_callVi (As := [.int x1]) (rest := []) zl_X12_325 zm_X12_isHouse ⟨by decide, by decide⟩ (ci := 12) rfl rfl (by decide) k_a0 rfl rfl (Nat.le_of_ble_eq_true rfl) zd_X12_hide_0.1.1.2.1 (ok_X12_isHouse hW k_a0 h2) ?_
  rcases zif_e h with ⟨hc3, h⟩ | ⟨hc3, h⟩
  · refine rn_if_eq_t (tgt := 22) hc3 zd_X12_hide_0.1.1.2.2 rfl ?_
    refine rn_iconst (v := 0) zd_X12_hide_0.2.2.1.1 rfl ?_
    cases h
    exact rn_zret zd_X12_hide_0.2.2.1.2 rfl rfl
  · refine rn_if_eq_f (tgt := 22) hc3 zd_X12_hide_0.1.1.2.2 rfl ?_
    refine rn_iload_n (q := 2) 2 rfl zd_X12_hide_0.1.2.1.1 ?_
    refine rn_iconst (v := 0) zd_X12_hide_0.1.2.1.2 rfl ?_
    refine rn_aload_n (q := 0) 0 rfl zd_X12_hide_0.1.2.2.1 ?_
    refine rn_getR zf_X12_101 (Or.inr ⟨_, rfl⟩) k_a0 (zx_12_45 hW k_a0) zd_X12_hide_0.1.2.2.2 ?_
    refine rn_iload_n (q := 1) 1 rfl zd_X12_hide_0.2.1.1.1 ?_
    obtain ⟨hc4, h⟩ := zck_e h
    refine rn_iald (zw_12_45 hW k_a0) hc4 zd_X12_hide_0.2.1.1.2 ?_
    obtain ⟨r5, h6, h⟩ := zbd_e h
    refine rn_callSi (As := [.int x2, .int (0 : Int32), .int (M (R a0 45) (ztn x1))]) (rest := []) zl_X12_276 zm_X12_in ⟨by decide, by decide⟩ rfl rfl (Nat.le_of_ble_eq_true rfl) zd_X12_hide_0.2.1.2.1 (ok_X12_in hW h6) ?_
    rcases zif_e h with ⟨hc7, h⟩ | ⟨hc7, h⟩
    · refine rn_if_ne_f (tgt := 24) hc7 zd_X12_hide_0.2.1.2.2 rfl ?_
      refine rn_iconst (v := 0) zd_X12_hide_0.2.2.1.1 rfl ?_
      cases h
      exact rn_zret zd_X12_hide_0.2.2.1.2 rfl rfl
    · refine rn_if_ne_t (tgt := 24) hc7 zd_X12_hide_0.2.1.2.2 rfl ?_
      refine rn_aload_n (q := 0) 0 rfl zd_X12_hide_0.2.2.2.1 ?_
      obtain ⟨M8, h9, h⟩ := zbd_e h
      refine rn_callVv (As := []) (rest := []) zl_X12_328 zm_X12_copies ⟨by decide, by decide⟩ (ci := 12) rfl rfl (by decide) k_a0 rfl rfl (Nat.le_of_ble_eq_true rfl) zd_X12_hide_0.2.2.2.2 (ok_X12_copies hW k_a0 h9) ?_
      refine rn_aload_n (q := 0) 0 rfl zd_X12_hide_1.1.1.1 ?_
      refine rn_getR zf_X12_104 (Or.inr ⟨_, rfl⟩) k_a0 (zx_12_46 hW k_a0) zd_X12_hide_1.1.1.2 ?_
      refine rn_bipush (v := 10) zd_X12_hide_1.1.2.1 rfl ?_
      refine rn_iload_n (q := 1) 1 rfl zd_X12_hide_1.1.2.2.1 ?_
      refine rn_iadd zd_X12_hide_1.1.2.2.2 ?_
      refine rn_iload_n (q := 2) 2 rfl zd_X12_hide_1.2.1.1 ?_
      obtain ⟨hc10, h⟩ := zck_e h
      obtain ⟨M11, hM11, h⟩ := zlt_e h
      refine rn_iast hM11 (zw_12_46 hW k_a0) hc10 zd_X12_hide_1.2.1.2.1 ?_
      refine rn_aload_n (q := 0) 0 rfl zd_X12_hide_1.2.1.2.2 ?_
      obtain ⟨M12, h13, h⟩ := zbd_e h
      refine rn_callVv (As := []) (rest := []) zl_X12_334 zm_X12_keeps ⟨by decide, by decide⟩ (ci := 12) rfl rfl (by decide) k_a0 rfl rfl (Nat.le_of_ble_eq_true rfl) zd_X12_hide_1.2.2.1 (ok_X12_keeps hW k_a0 h13) ?_
      refine rn_iconst (v := 1) zd_X12_hide_1.2.2.2.1 rfl ?_
      cases h
      exact rn_zret zd_X12_hide_1.2.2.2.2 rfl rfl
def f_X12_grab (R : zR) (M : zM) (a0 : Nat) (x1 : Int32) : Option (Int32 × zM) :=
  zbd (f_X12_isHouse R M a0 x1) fun r1 =>
  if r1 = 0 then (
    some ((-1 : Int32), M)
  ) else (
    zbd (f_X12_copies R M a0) fun M4 =>
    zck (zin x1 60) <|
    zck (zin x1 60) <|
    zlt (zup M4 (R a0 46) (ztn x1) ((M4 (R a0 46) (ztn x1)) + (M4 (R a0 46) (ztn (41 : Int32))))) fun M8 =>
    zlt (zup M8 (R a0 46) (ztn (41 : Int32)) (0 : Int32)) fun M9 =>
    zbd (f_X12_keeps R M9 a0) fun M10 =>
    some ((M4 (R a0 46) (ztn (41 : Int32))), M10)
  )
set_option maxRecDepth 4000 in
theorem ok_X12_grab {G : zG} {K : zK} {R : zR} {M : zM} {L : zL} (hW : zWT R K) {a0 : Nat} {x1 : Int32} (k_a0 : K[a0]? = some (12, 61)) {r' : Int32} {M' : zM} (h : f_X12_grab R M a0 x1 = some (r', M')) : Rm G mt_X12_grab [.ref a0, .int x1] (M, L, R, K) (some (.int r')) (M', L, R, K) := by
  refine rm_rn rfl rfl (Nat.le_of_ble_eq_true rfl) ?_
  show Rn G mt_X12_grab 0 [(0, .ref a0), (1, .int x1)] [] (M, L, R, K) (some (.int r')) (M', L, R, K)
  unfold f_X12_grab at h
  refine rn_aload_n (q := 0) 0 rfl zd_X12_grab_0.1.1.1.1 ?_
  refine rn_iload_n (q := 1) 1 rfl zd_X12_grab_0.1.1.1.2 ?_
  obtain ⟨r1, h2, h⟩ := zbd_e h
  refine rn_callVi (As := [.int x1]) (rest := []) zl_X12_325 zm_X12_isHouse ⟨by decide, by decide⟩ (ci := 12) rfl rfl (by decide) k_a0 rfl rfl (Nat.le_of_ble_eq_true rfl) zd_X12_grab_0.1.1.2.1 (ok_X12_isHouse hW k_a0 h2) ?_
  rcases zif_e h with ⟨hc3, h⟩ | ⟨hc3, h⟩
  · refine rn_if_ne_f (tgt := 10) hc3 zd_X12_grab_0.1.1.2.2 rfl ?_
    refine rn_iconst (v := -1) zd_X12_grab_0.1.2.1.1 rfl ?_
    cases h
    exact rn_iret zd_X12_grab_0.1.2.1.2 rfl
  · refine rn_if_ne_t (tgt := 10) hc3 zd_X12_grab_0.1.1.2.2 rfl ?_
    refine rn_aload_n (q := 0) 0 rfl zd_X12_grab_0.1.2.2.1 ?_
    obtain ⟨M4, h5, h⟩ := zbd_e h
    refine rn_callVv (As := []) (rest := []) zl_X12_328 zm_X12_copies ⟨by decide, by decide⟩ (ci := 12) rfl rfl (by decide) k_a0 rfl rfl (Nat.le_of_ble_eq_true rfl) zd_X12_grab_0.1.2.2.2 (ok_X12_copies hW k_a0 h5) ?_
    refine rn_aload_n (q := 0) 0 rfl zd_X12_grab_0.2.1.1.1 ?_
    refine rn_getR zf_X12_104 (Or.inr ⟨_, rfl⟩) k_a0 (zx_12_46 hW k_a0) zd_X12_grab_0.2.1.1.2 ?_
    refine rn_bipush (v := 41) zd_X12_grab_0.2.1.2.1 rfl ?_
    refine rn_iald (zw_12_46 hW k_a0) (by decide) zd_X12_grab_0.2.1.2.2 ?_
    refine rn_istore_n (q := 2) (ls' := [(2, .int (M4 (R a0 46) (ztn (41 : Int32)))), (0, .ref a0), (1, .int x1)]) (by decide) rfl zd_X12_grab_0.2.2.1.1 ?_
    refine rn_aload_n (q := 0) 1 rfl zd_X12_grab_0.2.2.1.2 ?_
    refine rn_getR zf_X12_104 (Or.inr ⟨_, rfl⟩) k_a0 (zx_12_46 hW k_a0) zd_X12_grab_0.2.2.2.1 ?_
    refine rn_iload_n (q := 1) 2 rfl zd_X12_grab_0.2.2.2.2 ?_
    refine rn_dup2 zd_X12_grab_1.1.1.1 rfl rfl ?_
    obtain ⟨hc6, h⟩ := zck_e h
    refine rn_iald (zw_12_46 hW k_a0) hc6 zd_X12_grab_1.1.1.2.1 ?_
    refine rn_iload_n (q := 2) 0 rfl zd_X12_grab_1.1.1.2.2 ?_
    refine rn_iadd zd_X12_grab_1.1.2.1.1 ?_
    obtain ⟨hc7, h⟩ := zck_e h
    obtain ⟨M8, hM8, h⟩ := zlt_e h
    refine rn_iast hM8 (zw_12_46 hW k_a0) hc7 zd_X12_grab_1.1.2.1.2 ?_
    refine rn_aload_n (q := 0) 1 rfl zd_X12_grab_1.1.2.2.1 ?_
    refine rn_getR zf_X12_104 (Or.inr ⟨_, rfl⟩) k_a0 (zx_12_46 hW k_a0) zd_X12_grab_1.1.2.2.2 ?_
    refine rn_bipush (v := 41) zd_X12_grab_1.2.1.1 rfl ?_
    refine rn_iconst (v := 0) zd_X12_grab_1.2.1.2.1 rfl ?_
    obtain ⟨M9, hM9, h⟩ := zlt_e h
    refine rn_iast hM9 (zw_12_46 hW k_a0) (by decide) zd_X12_grab_1.2.1.2.2 ?_
    refine rn_aload_n (q := 0) 1 rfl zd_X12_grab_1.2.2.1.1 ?_
    obtain ⟨M10, h11, h⟩ := zbd_e h
    refine rn_callVv (As := []) (rest := []) zl_X12_334 zm_X12_keeps ⟨by decide, by decide⟩ (ci := 12) rfl rfl (by decide) k_a0 rfl rfl (Nat.le_of_ble_eq_true rfl) zd_X12_grab_1.2.2.1.2 (ok_X12_keeps hW k_a0 h11) ?_
    refine rn_iload_n (q := 2) 0 rfl zd_X12_grab_1.2.2.2.1 ?_
    cases h
    exact rn_iret zd_X12_grab_1.2.2.2.2 rfl
abbrev P_X12_builds_2 (G : zG) (K : zK) (R : zR) (L : zL) (a0 : Nat) (x1 : Int32) (x2 : Int32) (r : Option Value) (S' : zS) (v : Int32 × zM) : Prop := Rn G mt_X12_builds 2 [(0, .ref a0), (1, .int x1), (2, .int x2), (3, .int v.1)] [] (v.2, L, R, K) r S'
abbrev Q_X12_builds_2 (G : zG) (K : zK) (R : zR) (L : zL) (a0 : Nat) (x1 : Int32) (x2 : Int32) (r : Option Value) (S' : zS) : (zM) → Prop := (fun e => Rn G mt_X12_builds 80 [(0, .ref a0)] [] (e, L, R, K) r S')
abbrev P_X12_builds_16 (G : zG) (K : zK) (R : zR) (L : zL) (a0 : Nat) (x1 : Int32) (x2 : Int32) (x3 : Int32) (r : Option Value) (S' : zS) (v : Int32 × zM) : Prop := Rn G mt_X12_builds 16 [(0, .ref a0), (1, .int x1), (2, .int x2), (3, .int x3), (4, .int v.1)] [] (v.2, L, R, K) r S'
abbrev Q_X12_builds_16 (G : zG) (K : zK) (R : zR) (L : zL) (a0 : Nat) (x1 : Int32) (x2 : Int32) (x3 : Int32) (r : Option Value) (S' : zS) : (zM) → Prop := (fun e => Rn G mt_X12_builds 54 [(0, .ref a0), (1, .int x1), (2, .int x2), (3, .int x3)] [] (e, L, R, K) r S')
def b_X12_builds_16 (R : zR) (M : zM) (a0 : Nat) (x1 : Int32) (x2 : Int32) (x3 : Int32) (x4 : Int32) : Option ((Int32 × zM) ⊕ ((zM))) :=
  if x4 ≤ x1 then (
    some (.inr M)
  ) else (
    zck (zin ((((10 : Int32) * x3) + x4) - (1 : Int32)) 60) <|
    zck (zin (((10 : Int32) * x3) + x4) 60) <|
    zlt (zup M (R a0 46) (ztn (((10 : Int32) * x3) + x4)) (M (R a0 46) (ztn ((((10 : Int32) * x3) + x4) - (1 : Int32))))) fun M5 =>
    some (.inl ((x4 + (-1)), M5))
  )
set_option maxRecDepth 4000 in
theorem ok_b_X12_builds_16 {G : zG} {K : zK} {R : zR} {M : zM} {L : zL} (hW : zWT R K) {a0 : Nat} {x1 : Int32} {x2 : Int32} {x3 : Int32} {x4 : Int32} (k_a0 : K[a0]? = some (12, 61)) {r : Option Value} {S' : zS} {x : (Int32 × zM) ⊕ ((zM))} (h : b_X12_builds_16 R M a0 x1 x2 x3 x4 = some x) (hk : Sum.elim (P_X12_builds_16 G K R L a0 x1 x2 x3 r S') (Q_X12_builds_16 G K R L a0 x1 x2 x3 r S') x) : P_X12_builds_16 G K R L a0 x1 x2 x3 r S' (x4, M) := by
  show Rn G mt_X12_builds 16 [(0, .ref a0), (1, .int x1), (2, .int x2), (3, .int x3), (4, .int x4)] [] (M, L, R, K) r S'
  unfold b_X12_builds_16 at h
  refine rn_iload 4 rfl zd_X12_builds_0.2.1.2.1 ?_
  refine rn_iload_n (q := 1) 1 rfl zd_X12_builds_0.2.1.2.2 ?_
  rcases zif_e h with ⟨hc2, h⟩ | ⟨hc2, h⟩
  · refine rn_icmp_le_t (tgt := 54) hc2 zd_X12_builds_0.2.2.1.1 rfl ?_
    cases h
    exact rn_sub (ls' := [(0, .ref a0), (1, .int x1), (2, .int x2), (3, .int x3)]) [0, 1, 2, 3] rfl hk
  · refine rn_icmp_le_f (tgt := 54) hc2 zd_X12_builds_0.2.2.1.1 rfl ?_
    refine rn_aload_n (q := 0) 0 rfl zd_X12_builds_0.2.2.1.2 ?_
    refine rn_getR zf_X12_104 (Or.inr ⟨_, rfl⟩) k_a0 (zx_12_46 hW k_a0) zd_X12_builds_0.2.2.2.1 ?_
    refine rn_bipush (v := 10) zd_X12_builds_0.2.2.2.2 rfl ?_
    refine rn_iload_n (q := 3) 3 rfl zd_X12_builds_1.1.1.1.1 ?_
    refine rn_imul zd_X12_builds_1.1.1.1.2 ?_
    refine rn_iload 4 rfl zd_X12_builds_1.1.1.2.1 ?_
    refine rn_iadd zd_X12_builds_1.1.1.2.2 ?_
    refine rn_aload_n (q := 0) 0 rfl zd_X12_builds_1.1.2.1.1 ?_
    refine rn_getR zf_X12_104 (Or.inr ⟨_, rfl⟩) k_a0 (zx_12_46 hW k_a0) zd_X12_builds_1.1.2.1.2 ?_
    refine rn_bipush (v := 10) zd_X12_builds_1.1.2.2.1 rfl ?_
    refine rn_iload_n (q := 3) 3 rfl zd_X12_builds_1.1.2.2.2 ?_
    refine rn_imul zd_X12_builds_1.2.1.1.1 ?_
    refine rn_iload 4 rfl zd_X12_builds_1.2.1.1.2 ?_
    refine rn_iadd zd_X12_builds_1.2.1.2.1 ?_
    refine rn_iconst (v := 1) zd_X12_builds_1.2.1.2.2 rfl ?_
    refine rn_isub zd_X12_builds_1.2.2.1.1 ?_
    obtain ⟨hc3, h⟩ := zck_e h
    refine rn_iald (zw_12_46 hW k_a0) hc3 zd_X12_builds_1.2.2.1.2 ?_
    obtain ⟨hc4, h⟩ := zck_e h
    obtain ⟨M5, hM5, h⟩ := zlt_e h
    refine rn_iast hM5 (zw_12_46 hW k_a0) hc4 zd_X12_builds_1.2.2.2.1 ?_
    refine rn_iinc (v := (x4 + (-1))) (ls' := [(4, .int (x4 + (-1))), (0, .ref a0), (1, .int x1), (2, .int x2), (3, .int x3)]) 4 rfl (congrArg (fun z => x4 + z) (show Int32.ofInt (-1) = -1 by decide)) (by decide) rfl zd_X12_builds_1.2.2.2.2 ?_
    refine rn_goto (tgt := 16) zd_X12_builds_2.1.1.1.1 rfl ?_
    cases h
    exact rn_sub (ls' := [(0, .ref a0), (1, .int x1), (2, .int x2), (3, .int x3), (4, .int (x4 + (-1)))]) [1, 2, 3, 4, 0] rfl hk
def j_X12_builds_73 (R : zR) (M : zM) (a0 : Nat) (x1 : Int32) (x2 : Int32) (x3 : Int32) (b0 : Nat) (s1 : Int32) (s2 : Int32) : Option ((Int32 × zM) ⊕ ((zM))) :=
  zck (zin s1 60) <|
  zlt (zup M b0 (ztn s1) s2) fun M9 =>
  some (.inl ((x3 + 1), M9))
set_option maxRecDepth 4000 in
theorem ok_j_X12_builds_73 {G : zG} {K : zK} {R : zR} {M : zM} {L : zL} (hW : zWT R K) {a0 : Nat} {x1 : Int32} {x2 : Int32} {x3 : Int32} {b0 : Nat} {s1 : Int32} {s2 : Int32} (k_a0 : K[a0]? = some (12, 61)) (k_b0 : K[b0]? = some (20, 60)) {r : Option Value} {S' : zS} {x : (Int32 × zM) ⊕ ((zM))} (h : j_X12_builds_73 R M a0 x1 x2 x3 b0 s1 s2 = some x) (hk : Sum.elim (P_X12_builds_2 G K R L a0 x1 x2 r S') (Q_X12_builds_2 G K R L a0 x1 x2 r S') x) : Rn G mt_X12_builds 73 [(0, .ref a0), (1, .int x1), (2, .int x2), (3, .int x3)] [.int s2, .int s1, .ref b0] (M, L, R, K) r S' := by
  unfold j_X12_builds_73 at h
  obtain ⟨hc8, h⟩ := zck_e h
  obtain ⟨M9, hM9, h⟩ := zlt_e h
  refine rn_iast hM9 k_b0 hc8 zd_X12_builds_2.2.2.1.2 ?_
  refine rn_iinc (v := (x3 + 1)) (ls' := [(3, .int (x3 + 1)), (0, .ref a0), (1, .int x1), (2, .int x2)]) 3 rfl rfl (by decide) rfl zd_X12_builds_2.2.2.2.1 ?_
  refine rn_goto (tgt := 2) zd_X12_builds_2.2.2.2.2 rfl ?_
  cases h
  exact rn_sub (ls' := [(0, .ref a0), (1, .int x1), (2, .int x2), (3, .int (x3 + 1))]) [1, 2, 3, 0] rfl hk
def b_X12_builds_2 (R : zR) (M : zM) (a0 : Nat) (x1 : Int32) (x2 : Int32) (x3 : Int32) : Option ((Int32 × zM) ⊕ ((zM))) :=
  if (4 : Int32) ≤ x3 then (
    some (.inr M)
  ) else (
    zbd (zloop zN (fun v => b_X12_builds_16 R v.2 a0 x1 x2 x3 v.1) ((M (R a0 46) (ztn (40 : Int32))), M)) fun e6 =>
    if x3 = 0 then (
      j_X12_builds_73 R e6 a0 x1 x2 x3 (R a0 46) (((10 : Int32) * x3) + x1) x2
    ) else (
      j_X12_builds_73 R e6 a0 x1 x2 x3 (R a0 46) (((10 : Int32) * x3) + x1) (0 : Int32)
    )
  )
set_option maxRecDepth 4000 in
theorem ok_b_X12_builds_2 {G : zG} {K : zK} {R : zR} {M : zM} {L : zL} (hW : zWT R K) {a0 : Nat} {x1 : Int32} {x2 : Int32} {x3 : Int32} (k_a0 : K[a0]? = some (12, 61)) {r : Option Value} {S' : zS} {x : (Int32 × zM) ⊕ ((zM))} (h : b_X12_builds_2 R M a0 x1 x2 x3 = some x) (hk : Sum.elim (P_X12_builds_2 G K R L a0 x1 x2 r S') (Q_X12_builds_2 G K R L a0 x1 x2 r S') x) : P_X12_builds_2 G K R L a0 x1 x2 r S' (x3, M) := by
  show Rn G mt_X12_builds 2 [(0, .ref a0), (1, .int x1), (2, .int x2), (3, .int x3)] [] (M, L, R, K) r S'
  unfold b_X12_builds_2 at h
  refine rn_iload_n (q := 3) 3 rfl zd_X12_builds_0.1.1.2.1 ?_
  refine rn_iconst (v := 4) zd_X12_builds_0.1.1.2.2 rfl ?_
  rcases zif_e h with ⟨hc1, h⟩ | ⟨hc1, h⟩
  · refine rn_icmp_ge_t (tgt := 80) hc1 zd_X12_builds_0.1.2.1.1 rfl ?_
    cases h
    exact rn_sub (ls' := [(0, .ref a0)]) [0] rfl hk
  · refine rn_icmp_ge_f (tgt := 80) hc1 zd_X12_builds_0.1.2.1.1 rfl ?_
    refine rn_aload_n (q := 0) 0 rfl zd_X12_builds_0.1.2.1.2 ?_
    refine rn_getR zf_X12_104 (Or.inr ⟨_, rfl⟩) k_a0 (zx_12_46 hW k_a0) zd_X12_builds_0.1.2.2.1 ?_
    refine rn_bipush (v := 40) zd_X12_builds_0.1.2.2.2 rfl ?_
    refine rn_iald (zw_12_46 hW k_a0) (by decide) zd_X12_builds_0.2.1.1.1 ?_
    refine rn_istore (ls' := [(4, .int (M (R a0 46) (ztn (40 : Int32)))), (0, .ref a0), (1, .int x1), (2, .int x2), (3, .int x3)]) (by decide) rfl zd_X12_builds_0.2.1.1.2 ?_
    obtain ⟨e6, he6, h⟩ := zbd_e h
    refine rn_sub (ls' := [(0, .ref a0), (1, .int x1), (2, .int x2), (3, .int x3), (4, .int (M (R a0 46) (ztn (40 : Int32))))]) [1, 2, 3, 4, 0] rfl (zloop_ok (P := P_X12_builds_16 G K R L a0 x1 x2 x3 r S') (Q := Q_X12_builds_16 G K R L a0 x1 x2 x3 r S') (fun v x hx hq => ok_b_X12_builds_16 hW k_a0 hx hq) _ _ _ he6 ?_)
    show Rn G mt_X12_builds 54 [(0, .ref a0), (1, .int x1), (2, .int x2), (3, .int x3)] [] (e6, L, R, K) r S'
    refine rn_aload_n (q := 0) 0 rfl zd_X12_builds_2.1.1.1.2 ?_
    refine rn_getR zf_X12_104 (Or.inr ⟨_, rfl⟩) k_a0 (zx_12_46 hW k_a0) zd_X12_builds_2.1.1.2.1 ?_
    refine rn_bipush (v := 10) zd_X12_builds_2.1.1.2.2 rfl ?_
    refine rn_iload_n (q := 3) 3 rfl zd_X12_builds_2.1.2.1.1 ?_
    refine rn_imul zd_X12_builds_2.1.2.1.2 ?_
    refine rn_iload_n (q := 1) 1 rfl zd_X12_builds_2.1.2.2.1 ?_
    refine rn_iadd zd_X12_builds_2.1.2.2.2 ?_
    refine rn_iload_n (q := 3) 3 rfl zd_X12_builds_2.2.1.1.1 ?_
    rcases zif_e h with ⟨hc7, h⟩ | ⟨hc7, h⟩
    · refine rn_if_ne_f (tgt := 72) hc7 zd_X12_builds_2.2.1.1.2 rfl ?_
      refine rn_iload_n (q := 2) 2 rfl zd_X12_builds_2.2.1.2.1 ?_
      refine rn_goto (tgt := 73) zd_X12_builds_2.2.1.2.2 rfl ?_
      exact rn_sub (ls' := [(0, .ref a0), (1, .int x1), (2, .int x2), (3, .int x3)]) [0, 1, 2, 3] rfl (ok_j_X12_builds_73 hW k_a0 (zw_12_46 hW k_a0) h hk)
    · refine rn_if_ne_t (tgt := 72) hc7 zd_X12_builds_2.2.1.1.2 rfl ?_
      refine rn_iconst (v := 0) zd_X12_builds_2.2.2.1.1 rfl ?_
      exact rn_sub (ls' := [(0, .ref a0), (1, .int x1), (2, .int x2), (3, .int x3)]) [0, 1, 2, 3] rfl (ok_j_X12_builds_73 hW k_a0 (zw_12_46 hW k_a0) h hk)
def f_X12_builds (R : zR) (M : zM) (a0 : Nat) (x1 : Int32) (x2 : Int32) : Option (zM) :=
  zbd (zloop zN (fun v => b_X12_builds_2 R v.2 a0 x1 x2 v.1) ((0 : Int32), M)) fun e10 =>
  zlt (zup e10 (R a0 46) (ztn (40 : Int32)) ((e10 (R a0 46) (ztn (40 : Int32))) + (1 : Int32))) fun M11 =>
  some M11
set_option maxRecDepth 4000 in
theorem ok_X12_builds {G : zG} {K : zK} {R : zR} {M : zM} {L : zL} (hW : zWT R K) {a0 : Nat} {x1 : Int32} {x2 : Int32} (k_a0 : K[a0]? = some (12, 61)) {M' : zM} (h : f_X12_builds R M a0 x1 x2 = some M') : Rm G mt_X12_builds [.ref a0, .int x1, .int x2] (M, L, R, K) none (M', L, R, K) := by
  refine rm_rn rfl rfl (Nat.le_of_ble_eq_true rfl) ?_
  show Rn G mt_X12_builds 0 [(0, .ref a0), (1, .int x1), (2, .int x2)] [] (M, L, R, K) none (M', L, R, K)
  unfold f_X12_builds at h
  refine rn_iconst (v := 0) zd_X12_builds_0.1.1.1.1 rfl ?_
  refine rn_istore_n (q := 3) (ls' := [(3, .int (0 : Int32)), (0, .ref a0), (1, .int x1), (2, .int x2)]) (by decide) rfl zd_X12_builds_0.1.1.1.2 ?_
  obtain ⟨e10, he10, h⟩ := zbd_e h
  refine rn_sub (ls' := [(0, .ref a0), (1, .int x1), (2, .int x2), (3, .int (0 : Int32))]) [1, 2, 3, 0] rfl (zloop_ok (P := P_X12_builds_2 G K R L a0 x1 x2 none (M', L, R, K)) (Q := Q_X12_builds_2 G K R L a0 x1 x2 none (M', L, R, K)) (fun v x hx hq => ok_b_X12_builds_2 hW k_a0 hx hq) _ _ _ he10 ?_)
  show Rn G mt_X12_builds 80 [(0, .ref a0)] [] (e10, L, R, K) none (M', L, R, K)
  refine rn_aload_n (q := 0) 0 rfl zd_X12_builds_3.1.1.1 ?_
  refine rn_getR zf_X12_104 (Or.inr ⟨_, rfl⟩) k_a0 (zx_12_46 hW k_a0) zd_X12_builds_3.1.1.2 ?_
  refine rn_bipush (v := 40) zd_X12_builds_3.1.2.1 rfl ?_
  refine rn_dup2 zd_X12_builds_3.1.2.2 rfl rfl ?_
  refine rn_iald (zw_12_46 hW k_a0) (by decide) zd_X12_builds_3.2.1.1 ?_
  refine rn_iconst (v := 1) zd_X12_builds_3.2.1.2 rfl ?_
  refine rn_iadd zd_X12_builds_3.2.2.1 ?_
  obtain ⟨M11, hM11, h⟩ := zlt_e h
  refine rn_iast hM11 (zw_12_46 hW k_a0) (by decide) zd_X12_builds_3.2.2.2.1 ?_
  cases h
  exact rn_vret zd_X12_builds_3.2.2.2.2 rfl
abbrev P_X12_goes_2 (G : zG) (K : zK) (R : zR) (L : zL) (a0 : Nat) (x1 : Int32) (r : Option Value) (S' : zS) (v : Int32 × zM) : Prop := Rn G mt_X12_goes 2 [(0, .ref a0), (1, .int x1), (2, .int v.1)] [] (v.2, L, R, K) r S'
abbrev Q_X12_goes_2 (G : zG) (K : zK) (R : zR) (L : zL) (a0 : Nat) (x1 : Int32) (r : Option Value) (S' : zS) : (zM) → Prop := (fun e => Rn G mt_X12_goes 64 [(0, .ref a0)] [] (e, L, R, K) r S')
abbrev P_X12_goes_9 (G : zG) (K : zK) (R : zR) (L : zL) (a0 : Nat) (x1 : Int32) (x2 : Int32) (r : Option Value) (S' : zS) (v : Int32 × zM) : Prop := Rn G mt_X12_goes 9 [(0, .ref a0), (1, .int x1), (2, .int x2), (3, .int v.1)] [] (v.2, L, R, K) r S'
abbrev Q_X12_goes_9 (G : zG) (K : zK) (R : zR) (L : zL) (a0 : Nat) (x1 : Int32) (x2 : Int32) (r : Option Value) (S' : zS) : (zM) → Prop := (fun e => Rn G mt_X12_goes 45 [(0, .ref a0), (1, .int x1), (2, .int x2)] [] (e, L, R, K) r S')
def b_X12_goes_9 (R : zR) (M : zM) (a0 : Nat) (x1 : Int32) (x2 : Int32) (x3 : Int32) : Option ((Int32 × zM) ⊕ ((zM))) :=
  if (9 : Int32) ≤ x3 then (
    some (.inr M)
  ) else (
    zck (zin ((((10 : Int32) * x2) + x3) + (1 : Int32)) 60) <|
    zck (zin (((10 : Int32) * x2) + x3) 60) <|
    zlt (zup M (R a0 46) (ztn (((10 : Int32) * x2) + x3)) (M (R a0 46) (ztn ((((10 : Int32) * x2) + x3) + (1 : Int32))))) fun M5 =>
    some (.inl ((x3 + 1), M5))
  )
set_option maxRecDepth 4000 in
theorem ok_b_X12_goes_9 {G : zG} {K : zK} {R : zR} {M : zM} {L : zL} (hW : zWT R K) {a0 : Nat} {x1 : Int32} {x2 : Int32} {x3 : Int32} (k_a0 : K[a0]? = some (12, 61)) {r : Option Value} {S' : zS} {x : (Int32 × zM) ⊕ ((zM))} (h : b_X12_goes_9 R M a0 x1 x2 x3 = some x) (hk : Sum.elim (P_X12_goes_9 G K R L a0 x1 x2 r S') (Q_X12_goes_9 G K R L a0 x1 x2 r S') x) : P_X12_goes_9 G K R L a0 x1 x2 r S' (x3, M) := by
  show Rn G mt_X12_goes 9 [(0, .ref a0), (1, .int x1), (2, .int x2), (3, .int x3)] [] (M, L, R, K) r S'
  unfold b_X12_goes_9 at h
  refine rn_iload_n (q := 3) 3 rfl zd_X12_goes_0.1.2.2.2 ?_
  refine rn_bipush (v := 9) zd_X12_goes_0.2.1.1.1 rfl ?_
  rcases zif_e h with ⟨hc2, h⟩ | ⟨hc2, h⟩
  · refine rn_icmp_ge_t (tgt := 45) hc2 zd_X12_goes_0.2.1.1.2 rfl ?_
    cases h
    exact rn_sub (ls' := [(0, .ref a0), (1, .int x1), (2, .int x2)]) [0, 1, 2] rfl hk
  · refine rn_icmp_ge_f (tgt := 45) hc2 zd_X12_goes_0.2.1.1.2 rfl ?_
    refine rn_aload_n (q := 0) 0 rfl zd_X12_goes_0.2.1.2.1 ?_
    refine rn_getR zf_X12_104 (Or.inr ⟨_, rfl⟩) k_a0 (zx_12_46 hW k_a0) zd_X12_goes_0.2.1.2.2 ?_
    refine rn_bipush (v := 10) zd_X12_goes_0.2.2.1.1 rfl ?_
    refine rn_iload_n (q := 2) 2 rfl zd_X12_goes_0.2.2.1.2 ?_
    refine rn_imul zd_X12_goes_0.2.2.2.1 ?_
    refine rn_iload_n (q := 3) 3 rfl zd_X12_goes_0.2.2.2.2 ?_
    refine rn_iadd zd_X12_goes_1.1.1.1.1 ?_
    refine rn_aload_n (q := 0) 0 rfl zd_X12_goes_1.1.1.1.2 ?_
    refine rn_getR zf_X12_104 (Or.inr ⟨_, rfl⟩) k_a0 (zx_12_46 hW k_a0) zd_X12_goes_1.1.1.2.1 ?_
    refine rn_bipush (v := 10) zd_X12_goes_1.1.1.2.2 rfl ?_
    refine rn_iload_n (q := 2) 2 rfl zd_X12_goes_1.1.2.1.1 ?_
    refine rn_imul zd_X12_goes_1.1.2.1.2 ?_
    refine rn_iload_n (q := 3) 3 rfl zd_X12_goes_1.1.2.2.1 ?_
    refine rn_iadd zd_X12_goes_1.1.2.2.2 ?_
    refine rn_iconst (v := 1) zd_X12_goes_1.2.1.1.1 rfl ?_
    refine rn_iadd zd_X12_goes_1.2.1.1.2 ?_
    obtain ⟨hc3, h⟩ := zck_e h
    refine rn_iald (zw_12_46 hW k_a0) hc3 zd_X12_goes_1.2.1.2.1 ?_
    obtain ⟨hc4, h⟩ := zck_e h
    obtain ⟨M5, hM5, h⟩ := zlt_e h
    refine rn_iast hM5 (zw_12_46 hW k_a0) hc4 zd_X12_goes_1.2.1.2.2 ?_
    refine rn_iinc (v := (x3 + 1)) (ls' := [(3, .int (x3 + 1)), (0, .ref a0), (1, .int x1), (2, .int x2)]) 3 rfl rfl (by decide) rfl zd_X12_goes_1.2.2.1.1 ?_
    refine rn_goto (tgt := 9) zd_X12_goes_1.2.2.1.2 rfl ?_
    cases h
    exact rn_sub (ls' := [(0, .ref a0), (1, .int x1), (2, .int x2), (3, .int (x3 + 1))]) [1, 2, 3, 0] rfl hk
def b_X12_goes_2 (R : zR) (M : zM) (a0 : Nat) (x1 : Int32) (x2 : Int32) : Option ((Int32 × zM) ⊕ ((zM))) :=
  if (4 : Int32) ≤ x2 then (
    some (.inr M)
  ) else (
    zbd (zloop zN (fun v => b_X12_goes_9 R v.2 a0 x1 x2 v.1) (x1, M)) fun e6 =>
    zck (zin (((10 : Int32) * x2) + (9 : Int32)) 60) <|
    zlt (zup e6 (R a0 46) (ztn (((10 : Int32) * x2) + (9 : Int32))) (0 : Int32)) fun M8 =>
    some (.inl ((x2 + 1), M8))
  )
set_option maxRecDepth 4000 in
theorem ok_b_X12_goes_2 {G : zG} {K : zK} {R : zR} {M : zM} {L : zL} (hW : zWT R K) {a0 : Nat} {x1 : Int32} {x2 : Int32} (k_a0 : K[a0]? = some (12, 61)) {r : Option Value} {S' : zS} {x : (Int32 × zM) ⊕ ((zM))} (h : b_X12_goes_2 R M a0 x1 x2 = some x) (hk : Sum.elim (P_X12_goes_2 G K R L a0 x1 r S') (Q_X12_goes_2 G K R L a0 x1 r S') x) : P_X12_goes_2 G K R L a0 x1 r S' (x2, M) := by
  show Rn G mt_X12_goes 2 [(0, .ref a0), (1, .int x1), (2, .int x2)] [] (M, L, R, K) r S'
  unfold b_X12_goes_2 at h
  refine rn_iload_n (q := 2) 2 rfl zd_X12_goes_0.1.1.2.1 ?_
  refine rn_iconst (v := 4) zd_X12_goes_0.1.1.2.2 rfl ?_
  rcases zif_e h with ⟨hc1, h⟩ | ⟨hc1, h⟩
  · refine rn_icmp_ge_t (tgt := 64) hc1 zd_X12_goes_0.1.2.1.1 rfl ?_
    cases h
    exact rn_sub (ls' := [(0, .ref a0)]) [0] rfl hk
  · refine rn_icmp_ge_f (tgt := 64) hc1 zd_X12_goes_0.1.2.1.1 rfl ?_
    refine rn_iload_n (q := 1) 1 rfl zd_X12_goes_0.1.2.1.2 ?_
    refine rn_istore_n (q := 3) (ls' := [(3, .int x1), (0, .ref a0), (1, .int x1), (2, .int x2)]) (by decide) rfl zd_X12_goes_0.1.2.2.1 ?_
    obtain ⟨e6, he6, h⟩ := zbd_e h
    refine rn_sub (ls' := [(0, .ref a0), (1, .int x1), (2, .int x2), (3, .int x1)]) [1, 2, 3, 0] rfl (zloop_ok (P := P_X12_goes_9 G K R L a0 x1 x2 r S') (Q := Q_X12_goes_9 G K R L a0 x1 x2 r S') (fun v x hx hq => ok_b_X12_goes_9 hW k_a0 hx hq) _ _ _ he6 ?_)
    show Rn G mt_X12_goes 45 [(0, .ref a0), (1, .int x1), (2, .int x2)] [] (e6, L, R, K) r S'
    refine rn_aload_n (q := 0) 0 rfl zd_X12_goes_1.2.2.2.1 ?_
    refine rn_getR zf_X12_104 (Or.inr ⟨_, rfl⟩) k_a0 (zx_12_46 hW k_a0) zd_X12_goes_1.2.2.2.2 ?_
    refine rn_bipush (v := 10) zd_X12_goes_2.1.1.1.1 rfl ?_
    refine rn_iload_n (q := 2) 2 rfl zd_X12_goes_2.1.1.1.2 ?_
    refine rn_imul zd_X12_goes_2.1.1.2.1 ?_
    refine rn_bipush (v := 9) zd_X12_goes_2.1.1.2.2 rfl ?_
    refine rn_iadd zd_X12_goes_2.1.2.1.1 ?_
    refine rn_iconst (v := 0) zd_X12_goes_2.1.2.1.2 rfl ?_
    obtain ⟨hc7, h⟩ := zck_e h
    obtain ⟨M8, hM8, h⟩ := zlt_e h
    refine rn_iast hM8 (zw_12_46 hW k_a0) hc7 zd_X12_goes_2.1.2.2.1 ?_
    refine rn_iinc (v := (x2 + 1)) (ls' := [(2, .int (x2 + 1)), (0, .ref a0), (1, .int x1)]) 2 rfl rfl (by decide) rfl zd_X12_goes_2.1.2.2.2 ?_
    refine rn_goto (tgt := 2) zd_X12_goes_2.2.1.1.1 rfl ?_
    cases h
    exact rn_sub (ls' := [(0, .ref a0), (1, .int x1), (2, .int (x2 + 1))]) [1, 2, 0] rfl hk
def f_X12_goes (R : zR) (M : zM) (a0 : Nat) (x1 : Int32) : Option (zM) :=
  zbd (zloop zN (fun v => b_X12_goes_2 R v.2 a0 x1 v.1) ((0 : Int32), M)) fun e9 =>
  zlt (zup e9 (R a0 46) (ztn (40 : Int32)) ((e9 (R a0 46) (ztn (40 : Int32))) - (1 : Int32))) fun M10 =>
  some M10
set_option maxRecDepth 4000 in
theorem ok_X12_goes {G : zG} {K : zK} {R : zR} {M : zM} {L : zL} (hW : zWT R K) {a0 : Nat} {x1 : Int32} (k_a0 : K[a0]? = some (12, 61)) {M' : zM} (h : f_X12_goes R M a0 x1 = some M') : Rm G mt_X12_goes [.ref a0, .int x1] (M, L, R, K) none (M', L, R, K) := by
  refine rm_rn rfl rfl (Nat.le_of_ble_eq_true rfl) ?_
  show Rn G mt_X12_goes 0 [(0, .ref a0), (1, .int x1)] [] (M, L, R, K) none (M', L, R, K)
  unfold f_X12_goes at h
  refine rn_iconst (v := 0) zd_X12_goes_0.1.1.1.1 rfl ?_
  refine rn_istore_n (q := 2) (ls' := [(2, .int (0 : Int32)), (0, .ref a0), (1, .int x1)]) (by decide) rfl zd_X12_goes_0.1.1.1.2 ?_
  obtain ⟨e9, he9, h⟩ := zbd_e h
  refine rn_sub (ls' := [(0, .ref a0), (1, .int x1), (2, .int (0 : Int32))]) [1, 2, 0] rfl (zloop_ok (P := P_X12_goes_2 G K R L a0 x1 none (M', L, R, K)) (Q := Q_X12_goes_2 G K R L a0 x1 none (M', L, R, K)) (fun v x hx hq => ok_b_X12_goes_2 hW k_a0 hx hq) _ _ _ he9 ?_)
  show Rn G mt_X12_goes 64 [(0, .ref a0)] [] (e9, L, R, K) none (M', L, R, K)
  refine rn_aload_n (q := 0) 0 rfl zd_X12_goes_2.2.1.1.2 ?_
  refine rn_getR zf_X12_104 (Or.inr ⟨_, rfl⟩) k_a0 (zx_12_46 hW k_a0) zd_X12_goes_2.2.1.2.1 ?_
  refine rn_bipush (v := 40) zd_X12_goes_2.2.1.2.2 rfl ?_
  refine rn_dup2 zd_X12_goes_2.2.2.1.1 rfl rfl ?_
  refine rn_iald (zw_12_46 hW k_a0) (by decide) zd_X12_goes_2.2.2.1.2 ?_
  refine rn_iconst (v := 1) zd_X12_goes_2.2.2.2.1 rfl ?_
  refine rn_isub zd_X12_goes_2.2.2.2.2 ?_
  obtain ⟨M10, hM10, h⟩ := zlt_e h
  refine rn_iast hM10 (zw_12_46 hW k_a0) (by decide) zd_X12_goes_3.1 ?_
  cases h
  exact rn_vret zd_X12_goes_3.2 rfl
def f_X12_build (R : zR) (M : zM) (a0 : Nat) (x1 : Int32) (x2 : Int32) : Option (Int32 × zM) :=
  if (M (R a0 45) (ztn (40 : Int32))) = (10 : Int32) then (
    some ((-1 : Int32), M)
  ) else (
    zbd (f_X12_in x1 (0 : Int32) (M (R a0 45) (ztn (40 : Int32)))) fun r2 =>
    if r2 = 0 then (
      some ((-1 : Int32), M)
    ) else (
      zbd (f_X12_in x2 (0 : Int32) (9999 : Int32)) fun r5 =>
      if r5 = 0 then (
        some ((-1 : Int32), M)
      ) else (
        zbd (f_X12_copies R M a0) fun M8 =>
        zbd (f_X12_builds R M8 a0 x1 x2) fun M10 =>
        zbd (f_X12_keeps R M10 a0) fun M12 =>
        some ((M12 (R a0 45) (ztn (40 : Int32))), M12)
      )
    )
  )
set_option maxRecDepth 4000 in
theorem ok_X12_build {G : zG} {K : zK} {R : zR} {M : zM} {L : zL} (hW : zWT R K) {a0 : Nat} {x1 : Int32} {x2 : Int32} (k_a0 : K[a0]? = some (12, 61)) {r' : Int32} {M' : zM} (h : f_X12_build R M a0 x1 x2 = some (r', M')) : Rm G mt_X12_build [.ref a0, .int x1, .int x2] (M, L, R, K) (some (.int r')) (M', L, R, K) := by
  refine rm_rn rfl rfl (Nat.le_of_ble_eq_true rfl) ?_
  show Rn G mt_X12_build 0 [(0, .ref a0), (1, .int x1), (2, .int x2)] [] (M, L, R, K) (some (.int r')) (M', L, R, K)
  unfold f_X12_build at h
  refine rn_aload_n (q := 0) 0 rfl zd_X12_build_0.1.1.1.1 ?_
  refine rn_getR zf_X12_101 (Or.inr ⟨_, rfl⟩) k_a0 (zx_12_45 hW k_a0) zd_X12_build_0.1.1.1.2 ?_
  refine rn_bipush (v := 40) zd_X12_build_0.1.1.2.1 rfl ?_
  refine rn_iald (zw_12_45 hW k_a0) (by decide) zd_X12_build_0.1.1.2.2 ?_
  refine rn_bipush (v := 10) zd_X12_build_0.1.2.1.1 rfl ?_
  rcases zif_e h with ⟨hc1, h⟩ | ⟨hc1, h⟩
  · refine rn_icmp_eq_t (tgt := 38) hc1 zd_X12_build_0.1.2.1.2 rfl ?_
    refine rn_iconst (v := -1) zd_X12_build_1.1.1.2.2 rfl ?_
    cases h
    exact rn_iret zd_X12_build_1.1.2.1.1 rfl
  · refine rn_icmp_eq_f (tgt := 38) hc1 zd_X12_build_0.1.2.1.2 rfl ?_
    refine rn_iload_n (q := 1) 1 rfl zd_X12_build_0.1.2.2.1 ?_
    refine rn_iconst (v := 0) zd_X12_build_0.1.2.2.2 rfl ?_
    refine rn_aload_n (q := 0) 0 rfl zd_X12_build_0.2.1.1.1 ?_
    refine rn_getR zf_X12_101 (Or.inr ⟨_, rfl⟩) k_a0 (zx_12_45 hW k_a0) zd_X12_build_0.2.1.1.2 ?_
    refine rn_bipush (v := 40) zd_X12_build_0.2.1.2.1 rfl ?_
    refine rn_iald (zw_12_45 hW k_a0) (by decide) zd_X12_build_0.2.1.2.2 ?_
    obtain ⟨r2, h3, h⟩ := zbd_e h
    refine rn_callSi (As := [.int x1, .int (0 : Int32), .int (M (R a0 45) (ztn (40 : Int32)))]) (rest := []) zl_X12_276 zm_X12_in ⟨by decide, by decide⟩ rfl rfl (Nat.le_of_ble_eq_true rfl) zd_X12_build_0.2.2.1.1 (ok_X12_in hW h3) ?_
    rcases zif_e h with ⟨hc4, h⟩ | ⟨hc4, h⟩
    · refine rn_if_eq_t (tgt := 38) hc4 zd_X12_build_0.2.2.1.2 rfl ?_
      refine rn_iconst (v := -1) zd_X12_build_1.1.1.2.2 rfl ?_
      cases h
      exact rn_iret zd_X12_build_1.1.2.1.1 rfl
    · refine rn_if_eq_f (tgt := 38) hc4 zd_X12_build_0.2.2.1.2 rfl ?_
      refine rn_iload_n (q := 2) 2 rfl zd_X12_build_0.2.2.2.1 ?_
      refine rn_iconst (v := 0) zd_X12_build_0.2.2.2.2 rfl ?_
      refine rn_sipush (v := 9999) zd_X12_build_1.1.1.1.1 rfl ?_
      obtain ⟨r5, h6, h⟩ := zbd_e h
      refine rn_callSi (As := [.int x2, .int (0 : Int32), .int (9999 : Int32)]) (rest := []) zl_X12_276 zm_X12_in ⟨by decide, by decide⟩ rfl rfl (Nat.le_of_ble_eq_true rfl) zd_X12_build_1.1.1.1.2 (ok_X12_in hW h6) ?_
      rcases zif_e h with ⟨hc7, h⟩ | ⟨hc7, h⟩
      · refine rn_if_ne_f (tgt := 40) hc7 zd_X12_build_1.1.1.2.1 rfl ?_
        refine rn_iconst (v := -1) zd_X12_build_1.1.1.2.2 rfl ?_
        cases h
        exact rn_iret zd_X12_build_1.1.2.1.1 rfl
      · refine rn_if_ne_t (tgt := 40) hc7 zd_X12_build_1.1.1.2.1 rfl ?_
        refine rn_aload_n (q := 0) 0 rfl zd_X12_build_1.1.2.1.2 ?_
        obtain ⟨M8, h9, h⟩ := zbd_e h
        refine rn_callVv (As := []) (rest := []) zl_X12_328 zm_X12_copies ⟨by decide, by decide⟩ (ci := 12) rfl rfl (by decide) k_a0 rfl rfl (Nat.le_of_ble_eq_true rfl) zd_X12_build_1.1.2.2.1 (ok_X12_copies hW k_a0 h9) ?_
        refine rn_aload_n (q := 0) 0 rfl zd_X12_build_1.1.2.2.2 ?_
        refine rn_iload_n (q := 1) 1 rfl zd_X12_build_1.2.1.1.1 ?_
        refine rn_iload_n (q := 2) 2 rfl zd_X12_build_1.2.1.1.2 ?_
        obtain ⟨M10, h11, h⟩ := zbd_e h
        refine rn_callVv (As := [.int x1, .int x2]) (rest := []) zl_X12_337 zm_X12_builds ⟨by decide, by decide⟩ (ci := 12) rfl rfl (by decide) k_a0 rfl rfl (Nat.le_of_ble_eq_true rfl) zd_X12_build_1.2.1.2.1 (ok_X12_builds hW k_a0 h11) ?_
        refine rn_aload_n (q := 0) 0 rfl zd_X12_build_1.2.1.2.2 ?_
        obtain ⟨M12, h13, h⟩ := zbd_e h
        refine rn_callVv (As := []) (rest := []) zl_X12_334 zm_X12_keeps ⟨by decide, by decide⟩ (ci := 12) rfl rfl (by decide) k_a0 rfl rfl (Nat.le_of_ble_eq_true rfl) zd_X12_build_1.2.2.1.1 (ok_X12_keeps hW k_a0 h13) ?_
        refine rn_aload_n (q := 0) 0 rfl zd_X12_build_1.2.2.1.2 ?_
        refine rn_getR zf_X12_101 (Or.inr ⟨_, rfl⟩) k_a0 (zx_12_45 hW k_a0) zd_X12_build_1.2.2.2.1 ?_
        refine rn_bipush (v := 40) zd_X12_build_1.2.2.2.2 rfl ?_
        refine rn_iald (zw_12_45 hW k_a0) (by decide) zd_X12_build_2.1 ?_
        cases h
        exact rn_iret zd_X12_build_2.2 rfl
def f_X12_burn (R : zR) (M : zM) (a0 : Nat) (x1 : Int32) : Option (Int32 × zM) :=
  zbd (f_X12_isHouse R M a0 x1) fun r1 =>
  if r1 = 0 then (
    some ((-1 : Int32), M)
  ) else (
    zbd (f_X12_copies R M a0) fun M4 =>
    zck (zin x1 60) <|
    zbd (f_X12_goes R M4 a0 x1) fun M7 =>
    zbd (f_X12_keeps R M7 a0) fun M9 =>
    some ((M4 (R a0 46) (ztn x1)), M9)
  )
set_option maxRecDepth 4000 in
theorem ok_X12_burn {G : zG} {K : zK} {R : zR} {M : zM} {L : zL} (hW : zWT R K) {a0 : Nat} {x1 : Int32} (k_a0 : K[a0]? = some (12, 61)) {r' : Int32} {M' : zM} (h : f_X12_burn R M a0 x1 = some (r', M')) : Rm G mt_X12_burn [.ref a0, .int x1] (M, L, R, K) (some (.int r')) (M', L, R, K) := by
  refine rm_rn rfl rfl (Nat.le_of_ble_eq_true rfl) ?_
  show Rn G mt_X12_burn 0 [(0, .ref a0), (1, .int x1)] [] (M, L, R, K) (some (.int r')) (M', L, R, K)
  unfold f_X12_burn at h
  refine rn_aload_n (q := 0) 0 rfl zd_X12_burn_0.1.1.1.1 ?_
  refine rn_iload_n (q := 1) 1 rfl zd_X12_burn_0.1.1.1.2 ?_
  obtain ⟨r1, h2, h⟩ := zbd_e h
  refine rn_callVi (As := [.int x1]) (rest := []) zl_X12_325 zm_X12_isHouse ⟨by decide, by decide⟩ (ci := 12) rfl rfl (by decide) k_a0 rfl rfl (Nat.le_of_ble_eq_true rfl) zd_X12_burn_0.1.1.2.1 (ok_X12_isHouse hW k_a0 h2) ?_
  rcases zif_e h with ⟨hc3, h⟩ | ⟨hc3, h⟩
  · refine rn_if_ne_f (tgt := 10) hc3 zd_X12_burn_0.1.1.2.2 rfl ?_
    refine rn_iconst (v := -1) zd_X12_burn_0.1.2.1.1 rfl ?_
    cases h
    exact rn_iret zd_X12_burn_0.1.2.1.2 rfl
  · refine rn_if_ne_t (tgt := 10) hc3 zd_X12_burn_0.1.1.2.2 rfl ?_
    refine rn_aload_n (q := 0) 0 rfl zd_X12_burn_0.1.2.2.1 ?_
    obtain ⟨M4, h5, h⟩ := zbd_e h
    refine rn_callVv (As := []) (rest := []) zl_X12_328 zm_X12_copies ⟨by decide, by decide⟩ (ci := 12) rfl rfl (by decide) k_a0 rfl rfl (Nat.le_of_ble_eq_true rfl) zd_X12_burn_0.1.2.2.2 (ok_X12_copies hW k_a0 h5) ?_
    refine rn_aload_n (q := 0) 0 rfl zd_X12_burn_0.2.1.1.1 ?_
    refine rn_getR zf_X12_104 (Or.inr ⟨_, rfl⟩) k_a0 (zx_12_46 hW k_a0) zd_X12_burn_0.2.1.1.2 ?_
    refine rn_iload_n (q := 1) 1 rfl zd_X12_burn_0.2.1.2.1 ?_
    obtain ⟨hc6, h⟩ := zck_e h
    refine rn_iald (zw_12_46 hW k_a0) hc6 zd_X12_burn_0.2.1.2.2 ?_
    refine rn_istore_n (q := 2) (ls' := [(2, .int (M4 (R a0 46) (ztn x1))), (0, .ref a0), (1, .int x1)]) (by decide) rfl zd_X12_burn_0.2.2.1.1 ?_
    refine rn_aload_n (q := 0) 1 rfl zd_X12_burn_0.2.2.1.2 ?_
    refine rn_iload_n (q := 1) 2 rfl zd_X12_burn_0.2.2.2.1 ?_
    obtain ⟨M7, h8, h⟩ := zbd_e h
    refine rn_callVv (As := [.int x1]) (rest := []) zl_X12_340 zm_X12_goes ⟨by decide, by decide⟩ (ci := 12) rfl rfl (by decide) k_a0 rfl rfl (Nat.le_of_ble_eq_true rfl) zd_X12_burn_0.2.2.2.2 (ok_X12_goes hW k_a0 h8) ?_
    refine rn_aload_n (q := 0) 1 rfl zd_X12_burn_1.1.1 ?_
    obtain ⟨M9, h10, h⟩ := zbd_e h
    refine rn_callVv (As := []) (rest := []) zl_X12_334 zm_X12_keeps ⟨by decide, by decide⟩ (ci := 12) rfl rfl (by decide) k_a0 rfl rfl (Nat.le_of_ble_eq_true rfl) zd_X12_burn_1.1.2 (ok_X12_keeps hW k_a0 h10) ?_
    refine rn_iload_n (q := 2) 0 rfl zd_X12_burn_1.2.1 ?_
    cases h
    exact rn_iret zd_X12_burn_1.2.2 rfl
abbrev P_X12_join_93 (G : zG) (K : zK) (R : zR) (L : zL) (a0 : Nat) (x2 : Int32) (x3 : Int32) (r : Option Value) (S' : zS) (v : Int32 × zM) : Prop := Rn G mt_X12_join 93 [(0, .ref a0), (2, .int x2), (3, .int x3), (4, .int v.1)] [] (v.2, L, R, K) r S'
abbrev Q_X12_join_93 (G : zG) (K : zK) (R : zR) (L : zL) (a0 : Nat) (x2 : Int32) (x3 : Int32) (r : Option Value) (S' : zS) : (zM) → Prop := (fun e => Rn G mt_X12_join 132 [(0, .ref a0), (2, .int x2), (3, .int x3)] [] (e, L, R, K) r S')
def b_X12_join_93 (R : zR) (M : zM) (a0 : Nat) (x2 : Int32) (x3 : Int32) (x4 : Int32) : Option ((Int32 × zM) ⊕ ((zM))) :=
  if (4 : Int32) ≤ x4 then (
    some (.inr M)
  ) else (
    zck (zin (((10 : Int32) * x4) + x2) 60) <|
    zck (zin (((10 : Int32) * x4) + x3) 60) <|
    zck (zin (((10 : Int32) * x4) + x2) 60) <|
    zlt (zup M (R a0 46) (ztn (((10 : Int32) * x4) + x2)) ((M (R a0 46) (ztn (((10 : Int32) * x4) + x2))) + (M (R a0 46) (ztn (((10 : Int32) * x4) + x3))))) fun M15 =>
    some (.inl ((x4 + 1), M15))
  )
set_option maxRecDepth 4000 in
theorem ok_b_X12_join_93 {G : zG} {K : zK} {R : zR} {M : zM} {L : zL} (hW : zWT R K) {a0 : Nat} {x2 : Int32} {x3 : Int32} {x4 : Int32} (k_a0 : K[a0]? = some (12, 61)) {r : Option Value} {S' : zS} {x : (Int32 × zM) ⊕ ((zM))} (h : b_X12_join_93 R M a0 x2 x3 x4 = some x) (hk : Sum.elim (P_X12_join_93 G K R L a0 x2 x3 r S') (Q_X12_join_93 G K R L a0 x2 x3 r S') x) : P_X12_join_93 G K R L a0 x2 x3 r S' (x4, M) := by
  show Rn G mt_X12_join 93 [(0, .ref a0), (2, .int x2), (3, .int x3), (4, .int x4)] [] (M, L, R, K) r S'
  unfold b_X12_join_93 at h
  refine rn_iload 3 rfl zd_X12_join_3.2.1.1.1 ?_
  refine rn_iconst (v := 4) zd_X12_join_3.2.1.1.2 rfl ?_
  rcases zif_e h with ⟨hc11, h⟩ | ⟨hc11, h⟩
  · refine rn_icmp_ge_t (tgt := 132) hc11 zd_X12_join_3.2.1.2.1 rfl ?_
    cases h
    exact rn_sub (ls' := [(0, .ref a0), (2, .int x2), (3, .int x3)]) [0, 1, 2] rfl hk
  · refine rn_icmp_ge_f (tgt := 132) hc11 zd_X12_join_3.2.1.2.1 rfl ?_
    refine rn_aload_n (q := 0) 0 rfl zd_X12_join_3.2.1.2.2 ?_
    refine rn_getR zf_X12_104 (Or.inr ⟨_, rfl⟩) k_a0 (zx_12_46 hW k_a0) zd_X12_join_3.2.2.1.1 ?_
    refine rn_bipush (v := 10) zd_X12_join_3.2.2.1.2 rfl ?_
    refine rn_iload 3 rfl zd_X12_join_3.2.2.2.1 ?_
    refine rn_imul zd_X12_join_3.2.2.2.2 ?_
    refine rn_iload_n (q := 2) 1 rfl zd_X12_join_4.1.1.1.1 ?_
    refine rn_iadd zd_X12_join_4.1.1.1.2 ?_
    refine rn_dup2 zd_X12_join_4.1.1.2.1 rfl rfl ?_
    obtain ⟨hc12, h⟩ := zck_e h
    refine rn_iald (zw_12_46 hW k_a0) hc12 zd_X12_join_4.1.1.2.2 ?_
    refine rn_aload_n (q := 0) 0 rfl zd_X12_join_4.1.2.1.1 ?_
    refine rn_getR zf_X12_104 (Or.inr ⟨_, rfl⟩) k_a0 (zx_12_46 hW k_a0) zd_X12_join_4.1.2.1.2 ?_
    refine rn_bipush (v := 10) zd_X12_join_4.1.2.2.1 rfl ?_
    refine rn_iload 3 rfl zd_X12_join_4.1.2.2.2 ?_
    refine rn_imul zd_X12_join_4.2.1.1.1 ?_
    refine rn_iload_n (q := 3) 2 rfl zd_X12_join_4.2.1.1.2 ?_
    refine rn_iadd zd_X12_join_4.2.1.2.1 ?_
    obtain ⟨hc13, h⟩ := zck_e h
    refine rn_iald (zw_12_46 hW k_a0) hc13 zd_X12_join_4.2.1.2.2 ?_
    refine rn_iadd zd_X12_join_4.2.2.1.1 ?_
    obtain ⟨hc14, h⟩ := zck_e h
    obtain ⟨M15, hM15, h⟩ := zlt_e h
    refine rn_iast hM15 (zw_12_46 hW k_a0) hc14 zd_X12_join_4.2.2.1.2 ?_
    refine rn_iinc (v := (x4 + 1)) (ls' := [(4, .int (x4 + 1)), (0, .ref a0), (2, .int x2), (3, .int x3)]) 3 rfl rfl (by decide) rfl zd_X12_join_4.2.2.2.1 ?_
    refine rn_goto (tgt := 93) zd_X12_join_4.2.2.2.2 rfl ?_
    cases h
    exact rn_sub (ls' := [(0, .ref a0), (2, .int x2), (3, .int x3), (4, .int (x4 + 1))]) [1, 2, 3, 0] rfl hk
def j_X12_join_68 (R : zR) (M : zM) (a0 : Nat) (x1 : Int32) (s0 : Int32) : Option (Int32 × zM) :=
  if x1 = ((M (R a0 46) (ztn (40 : Int32))) - (1 : Int32)) then (
    zbd (zloop zN (fun v => b_X12_join_93 R v.2 a0 s0 x1 v.1) ((0 : Int32), M)) fun e22 =>
    zck (zin s0 60) <|
    zbd (f_X12_goes R e22 a0 x1) fun M24 =>
    zbd (f_X12_keeps R M24 a0) fun M26 =>
    some ((e22 (R a0 46) (ztn s0)), M26)
  ) else (
    zbd (zloop zN (fun v => b_X12_join_93 R v.2 a0 s0 (x1 + (1 : Int32)) v.1) ((0 : Int32), M)) fun e16 =>
    zck (zin s0 60) <|
    zbd (f_X12_goes R e16 a0 (x1 + (1 : Int32))) fun M18 =>
    zbd (f_X12_keeps R M18 a0) fun M20 =>
    some ((e16 (R a0 46) (ztn s0)), M20)
  )
set_option maxRecDepth 4000 in
theorem ok_j_X12_join_68 {G : zG} {K : zK} {R : zR} {M : zM} {L : zL} (hW : zWT R K) {a0 : Nat} {x1 : Int32} {s0 : Int32} (k_a0 : K[a0]? = some (12, 61)) {r' : Int32} {M' : zM} (h : j_X12_join_68 R M a0 x1 s0 = some (r', M')) : Rn G mt_X12_join 68 [(0, .ref a0), (1, .int x1)] [.int s0] (M, L, R, K) (some (.int r')) (M', L, R, K) := by
  unfold j_X12_join_68 at h
  refine rn_istore_n (q := 2) (ls' := [(2, .int s0), (0, .ref a0), (1, .int x1)]) (by decide) rfl zd_X12_join_2.1.2.2.2 ?_
  refine rn_iload_n (q := 1) 2 rfl zd_X12_join_2.2.1.1.1 ?_
  refine rn_aload_n (q := 0) 1 rfl zd_X12_join_2.2.1.1.2 ?_
  refine rn_getR zf_X12_104 (Or.inr ⟨_, rfl⟩) k_a0 (zx_12_46 hW k_a0) zd_X12_join_2.2.1.2.1 ?_
  refine rn_bipush (v := 40) zd_X12_join_2.2.1.2.2 rfl ?_
  refine rn_iald (zw_12_46 hW k_a0) (by decide) zd_X12_join_2.2.2.1.1 ?_
  refine rn_iconst (v := 1) zd_X12_join_2.2.2.1.2 rfl ?_
  refine rn_isub zd_X12_join_2.2.2.2.1 ?_
  rcases zif_e h with ⟨hc10, h⟩ | ⟨hc10, h⟩
  · refine rn_icmp_ne_f (tgt := 86) hc10 zd_X12_join_2.2.2.2.2 rfl ?_
    refine rn_iload_n (q := 1) 2 rfl zd_X12_join_3.1.1.1.1 ?_
    refine rn_goto (tgt := 89) zd_X12_join_3.1.1.1.2 rfl ?_
    refine rn_istore_n (q := 3) (ls' := [(3, .int x1), (2, .int s0), (0, .ref a0), (1, .int x1)]) (by decide) rfl zd_X12_join_3.1.2.1.2 ?_
    refine rn_iconst (v := 0) zd_X12_join_3.1.2.2.1 rfl ?_
    refine rn_istore (ls' := [(4, .int (0 : Int32)), (3, .int x1), (2, .int s0), (0, .ref a0), (1, .int x1)]) (by decide) rfl zd_X12_join_3.1.2.2.2 ?_
    obtain ⟨e22, he22, h⟩ := zbd_e h
    refine rn_sub (ls' := [(0, .ref a0), (2, .int s0), (3, .int x1), (4, .int (0 : Int32))]) [3, 2, 1, 0] rfl (zloop_ok (P := P_X12_join_93 G K R L a0 s0 x1 (some (.int r')) (M', L, R, K)) (Q := Q_X12_join_93 G K R L a0 s0 x1 (some (.int r')) (M', L, R, K)) (fun v x hx hq => ok_b_X12_join_93 hW k_a0 hx hq) _ _ _ he22 ?_)
    show Rn G mt_X12_join 132 [(0, .ref a0), (2, .int s0), (3, .int x1)] [] (e22, L, R, K) (some (.int r')) (M', L, R, K)
    refine rn_aload_n (q := 0) 0 rfl zd_X12_join_5.1.1.1 ?_
    refine rn_getR zf_X12_104 (Or.inr ⟨_, rfl⟩) k_a0 (zx_12_46 hW k_a0) zd_X12_join_5.1.1.2.1 ?_
    refine rn_iload_n (q := 2) 1 rfl zd_X12_join_5.1.1.2.2 ?_
    obtain ⟨hc23, h⟩ := zck_e h
    refine rn_iald (zw_12_46 hW k_a0) hc23 zd_X12_join_5.1.2.1 ?_
    refine rn_istore (ls' := [(4, .int (e22 (R a0 46) (ztn s0))), (0, .ref a0), (2, .int s0), (3, .int x1)]) (by decide) rfl zd_X12_join_5.1.2.2.1 ?_
    refine rn_aload_n (q := 0) 1 rfl zd_X12_join_5.1.2.2.2 ?_
    refine rn_iload_n (q := 3) 3 rfl zd_X12_join_5.2.1.1 ?_
    obtain ⟨M24, h25, h⟩ := zbd_e h
    refine rn_callVv (As := [.int x1]) (rest := []) zl_X12_340 zm_X12_goes ⟨by decide, by decide⟩ (ci := 12) rfl rfl (by decide) k_a0 rfl rfl (Nat.le_of_ble_eq_true rfl) zd_X12_join_5.2.1.2.1 (ok_X12_goes hW k_a0 h25) ?_
    refine rn_aload_n (q := 0) 1 rfl zd_X12_join_5.2.1.2.2 ?_
    obtain ⟨M26, h27, h⟩ := zbd_e h
    refine rn_callVv (As := []) (rest := []) zl_X12_334 zm_X12_keeps ⟨by decide, by decide⟩ (ci := 12) rfl rfl (by decide) k_a0 rfl rfl (Nat.le_of_ble_eq_true rfl) zd_X12_join_5.2.2.1 (ok_X12_keeps hW k_a0 h27) ?_
    refine rn_iload 0 rfl zd_X12_join_5.2.2.2.1 ?_
    cases h
    exact rn_iret zd_X12_join_5.2.2.2.2 rfl
  · refine rn_icmp_ne_t (tgt := 86) hc10 zd_X12_join_2.2.2.2.2 rfl ?_
    refine rn_iload_n (q := 1) 2 rfl zd_X12_join_3.1.1.2.1 ?_
    refine rn_iconst (v := 1) zd_X12_join_3.1.1.2.2 rfl ?_
    refine rn_iadd zd_X12_join_3.1.2.1.1 ?_
    refine rn_istore_n (q := 3) (ls' := [(3, .int (x1 + (1 : Int32))), (2, .int s0), (0, .ref a0), (1, .int x1)]) (by decide) rfl zd_X12_join_3.1.2.1.2 ?_
    refine rn_iconst (v := 0) zd_X12_join_3.1.2.2.1 rfl ?_
    refine rn_istore (ls' := [(4, .int (0 : Int32)), (3, .int (x1 + (1 : Int32))), (2, .int s0), (0, .ref a0), (1, .int x1)]) (by decide) rfl zd_X12_join_3.1.2.2.2 ?_
    obtain ⟨e16, he16, h⟩ := zbd_e h
    refine rn_sub (ls' := [(0, .ref a0), (2, .int s0), (3, .int (x1 + (1 : Int32))), (4, .int (0 : Int32))]) [3, 2, 1, 0] rfl (zloop_ok (P := P_X12_join_93 G K R L a0 s0 (x1 + (1 : Int32)) (some (.int r')) (M', L, R, K)) (Q := Q_X12_join_93 G K R L a0 s0 (x1 + (1 : Int32)) (some (.int r')) (M', L, R, K)) (fun v x hx hq => ok_b_X12_join_93 hW k_a0 hx hq) _ _ _ he16 ?_)
    show Rn G mt_X12_join 132 [(0, .ref a0), (2, .int s0), (3, .int (x1 + (1 : Int32)))] [] (e16, L, R, K) (some (.int r')) (M', L, R, K)
    refine rn_aload_n (q := 0) 0 rfl zd_X12_join_5.1.1.1 ?_
    refine rn_getR zf_X12_104 (Or.inr ⟨_, rfl⟩) k_a0 (zx_12_46 hW k_a0) zd_X12_join_5.1.1.2.1 ?_
    refine rn_iload_n (q := 2) 1 rfl zd_X12_join_5.1.1.2.2 ?_
    obtain ⟨hc17, h⟩ := zck_e h
    refine rn_iald (zw_12_46 hW k_a0) hc17 zd_X12_join_5.1.2.1 ?_
    refine rn_istore (ls' := [(4, .int (e16 (R a0 46) (ztn s0))), (0, .ref a0), (2, .int s0), (3, .int (x1 + (1 : Int32)))]) (by decide) rfl zd_X12_join_5.1.2.2.1 ?_
    refine rn_aload_n (q := 0) 1 rfl zd_X12_join_5.1.2.2.2 ?_
    refine rn_iload_n (q := 3) 3 rfl zd_X12_join_5.2.1.1 ?_
    obtain ⟨M18, h19, h⟩ := zbd_e h
    refine rn_callVv (As := [.int (x1 + (1 : Int32))]) (rest := []) zl_X12_340 zm_X12_goes ⟨by decide, by decide⟩ (ci := 12) rfl rfl (by decide) k_a0 rfl rfl (Nat.le_of_ble_eq_true rfl) zd_X12_join_5.2.1.2.1 (ok_X12_goes hW k_a0 h19) ?_
    refine rn_aload_n (q := 0) 1 rfl zd_X12_join_5.2.1.2.2 ?_
    obtain ⟨M20, h21, h⟩ := zbd_e h
    refine rn_callVv (As := []) (rest := []) zl_X12_334 zm_X12_keeps ⟨by decide, by decide⟩ (ci := 12) rfl rfl (by decide) k_a0 rfl rfl (Nat.le_of_ble_eq_true rfl) zd_X12_join_5.2.2.1 (ok_X12_keeps hW k_a0 h21) ?_
    refine rn_iload 0 rfl zd_X12_join_5.2.2.2.1 ?_
    cases h
    exact rn_iret zd_X12_join_5.2.2.2.2 rfl
def j_X12_join_46 (R : zR) (M : zM) (a0 : Nat) (x1 : Int32) : Option (Int32 × zM) :=
  zbd (f_X12_copies R M a0) fun M7 =>
  if x1 = ((M7 (R a0 46) (ztn (40 : Int32))) - (1 : Int32)) then (
    j_X12_join_68 R M7 a0 x1 (0 : Int32)
  ) else (
    j_X12_join_68 R M7 a0 x1 x1
  )
set_option maxRecDepth 4000 in
theorem ok_j_X12_join_46 {G : zG} {K : zK} {R : zR} {M : zM} {L : zL} (hW : zWT R K) {a0 : Nat} {x1 : Int32} (k_a0 : K[a0]? = some (12, 61)) {r' : Int32} {M' : zM} (h : j_X12_join_46 R M a0 x1 = some (r', M')) : Rn G mt_X12_join 46 [(0, .ref a0), (1, .int x1)] [] (M, L, R, K) (some (.int r')) (M', L, R, K) := by
  unfold j_X12_join_46 at h
  refine rn_aload_n (q := 0) 0 rfl zd_X12_join_1.2.1.2.1 ?_
  obtain ⟨M7, h8, h⟩ := zbd_e h
  refine rn_callVv (As := []) (rest := []) zl_X12_328 zm_X12_copies ⟨by decide, by decide⟩ (ci := 12) rfl rfl (by decide) k_a0 rfl rfl (Nat.le_of_ble_eq_true rfl) zd_X12_join_1.2.1.2.2 (ok_X12_copies hW k_a0 h8) ?_
  refine rn_iload_n (q := 1) 1 rfl zd_X12_join_1.2.2.1.1 ?_
  refine rn_aload_n (q := 0) 0 rfl zd_X12_join_1.2.2.1.2 ?_
  refine rn_getR zf_X12_104 (Or.inr ⟨_, rfl⟩) k_a0 (zx_12_46 hW k_a0) zd_X12_join_1.2.2.2.1 ?_
  refine rn_bipush (v := 40) zd_X12_join_1.2.2.2.2 rfl ?_
  refine rn_iald (zw_12_46 hW k_a0) (by decide) zd_X12_join_2.1.1.1.1 ?_
  refine rn_iconst (v := 1) zd_X12_join_2.1.1.1.2 rfl ?_
  refine rn_isub zd_X12_join_2.1.1.2.1 ?_
  rcases zif_e h with ⟨hc9, h⟩ | ⟨hc9, h⟩
  · refine rn_icmp_ne_f (tgt := 67) hc9 zd_X12_join_2.1.1.2.2 rfl ?_
    refine rn_iconst (v := 0) zd_X12_join_2.1.2.1.1 rfl ?_
    refine rn_goto (tgt := 68) zd_X12_join_2.1.2.1.2 rfl ?_
    exact rn_sub (ls' := [(0, .ref a0), (1, .int x1)]) [0, 1] rfl (ok_j_X12_join_68 hW k_a0 h)
  · refine rn_icmp_ne_t (tgt := 67) hc9 zd_X12_join_2.1.1.2.2 rfl ?_
    refine rn_iload_n (q := 1) 1 rfl zd_X12_join_2.1.2.2.1 ?_
    exact rn_sub (ls' := [(0, .ref a0), (1, .int x1)]) [0, 1] rfl (ok_j_X12_join_68 hW k_a0 h)
def f_X12_join (R : zR) (M : zM) (a0 : Nat) (x1 : Int32) : Option (Int32 × zM) :=
  zbd (f_X12_isHouse R M a0 x1) fun r1 =>
  if r1 = 0 then (
    some ((-1 : Int32), M)
  ) else (
    if (M (R a0 45) (ztn (40 : Int32))) < (2 : Int32) then (
      some ((-1 : Int32), M)
    ) else (
      zck (zin (M a0 18) 2) <|
      if (M (R a0 24) (ztn (M a0 18))) = 0 then (
        j_X12_join_46 R M a0 x1
      ) else (
        if x1 = ((M (R a0 45) (ztn (40 : Int32))) - (1 : Int32)) then (
          some ((-1 : Int32), M)
        ) else (
          j_X12_join_46 R M a0 x1
        )
      )
    )
  )
set_option maxRecDepth 4000 in
theorem ok_X12_join {G : zG} {K : zK} {R : zR} {M : zM} {L : zL} (hW : zWT R K) {a0 : Nat} {x1 : Int32} (k_a0 : K[a0]? = some (12, 61)) {r' : Int32} {M' : zM} (h : f_X12_join R M a0 x1 = some (r', M')) : Rm G mt_X12_join [.ref a0, .int x1] (M, L, R, K) (some (.int r')) (M', L, R, K) := by
  refine rm_rn rfl rfl (Nat.le_of_ble_eq_true rfl) ?_
  show Rn G mt_X12_join 0 [(0, .ref a0), (1, .int x1)] [] (M, L, R, K) (some (.int r')) (M', L, R, K)
  unfold f_X12_join at h
  refine rn_aload_n (q := 0) 0 rfl zd_X12_join_0.1.1.1.1 ?_
  refine rn_iload_n (q := 1) 1 rfl zd_X12_join_0.1.1.1.2 ?_
  obtain ⟨r1, h2, h⟩ := zbd_e h
  refine rn_callVi (As := [.int x1]) (rest := []) zl_X12_325 zm_X12_isHouse ⟨by decide, by decide⟩ (ci := 12) rfl rfl (by decide) k_a0 rfl rfl (Nat.le_of_ble_eq_true rfl) zd_X12_join_0.1.1.2.1 (ok_X12_isHouse hW k_a0 h2) ?_
  rcases zif_e h with ⟨hc3, h⟩ | ⟨hc3, h⟩
  · refine rn_if_eq_t (tgt := 44) hc3 zd_X12_join_0.1.1.2.2 rfl ?_
    refine rn_iconst (v := -1) zd_X12_join_1.2.1.1.1 rfl ?_
    cases h
    exact rn_iret zd_X12_join_1.2.1.1.2 rfl
  · refine rn_if_eq_f (tgt := 44) hc3 zd_X12_join_0.1.1.2.2 rfl ?_
    refine rn_aload_n (q := 0) 0 rfl zd_X12_join_0.1.2.1.1 ?_
    refine rn_getR zf_X12_101 (Or.inr ⟨_, rfl⟩) k_a0 (zx_12_45 hW k_a0) zd_X12_join_0.1.2.1.2 ?_
    refine rn_bipush (v := 40) zd_X12_join_0.1.2.2.1 rfl ?_
    refine rn_iald (zw_12_45 hW k_a0) (by decide) zd_X12_join_0.1.2.2.2 ?_
    refine rn_iconst (v := 2) zd_X12_join_0.2.1.1.1 rfl ?_
    rcases zif_e h with ⟨hc4, h⟩ | ⟨hc4, h⟩
    · refine rn_icmp_lt_t (tgt := 44) hc4 zd_X12_join_0.2.1.1.2 rfl ?_
      refine rn_iconst (v := -1) zd_X12_join_1.2.1.1.1 rfl ?_
      cases h
      exact rn_iret zd_X12_join_1.2.1.1.2 rfl
    · refine rn_icmp_lt_f (tgt := 44) hc4 zd_X12_join_0.2.1.1.2 rfl ?_
      refine rn_aload_n (q := 0) 0 rfl zd_X12_join_0.2.1.2.1 ?_
      refine rn_getR zf_X12_49 (Or.inr ⟨_, rfl⟩) k_a0 (zx_12_24 hW k_a0) zd_X12_join_0.2.1.2.2 ?_
      refine rn_aload_n (q := 0) 0 rfl zd_X12_join_0.2.2.1.1 ?_
      refine rn_getI zf_X12_212 (Or.inl rfl) k_a0 zd_X12_join_0.2.2.1.2 ?_
      obtain ⟨hc5, h⟩ := zck_e h
      refine rn_zald (zw_12_24 hW k_a0) hc5 zd_X12_join_0.2.2.2.1 ?_
      rcases zif_e h with ⟨hc6, h⟩ | ⟨hc6, h⟩
      · refine rn_if_eq_t (tgt := 46) hc6 zd_X12_join_0.2.2.2.2 rfl ?_
        exact rn_sub (ls' := [(0, .ref a0), (1, .int x1)]) [0, 1] rfl (ok_j_X12_join_46 hW k_a0 h)
      · refine rn_if_eq_f (tgt := 46) hc6 zd_X12_join_0.2.2.2.2 rfl ?_
        refine rn_iload_n (q := 1) 1 rfl zd_X12_join_1.1.1.1.1 ?_
        refine rn_aload_n (q := 0) 0 rfl zd_X12_join_1.1.1.1.2 ?_
        refine rn_getR zf_X12_101 (Or.inr ⟨_, rfl⟩) k_a0 (zx_12_45 hW k_a0) zd_X12_join_1.1.1.2.1 ?_
        refine rn_bipush (v := 40) zd_X12_join_1.1.1.2.2 rfl ?_
        refine rn_iald (zw_12_45 hW k_a0) (by decide) zd_X12_join_1.1.2.1.1 ?_
        refine rn_iconst (v := 1) zd_X12_join_1.1.2.1.2 rfl ?_
        refine rn_isub zd_X12_join_1.1.2.2.1 ?_
        rcases zif_e h with ⟨hc28, h⟩ | ⟨hc28, h⟩
        · refine rn_icmp_ne_f (tgt := 46) hc28 zd_X12_join_1.1.2.2.2 rfl ?_
          refine rn_iconst (v := -1) zd_X12_join_1.2.1.1.1 rfl ?_
          cases h
          exact rn_iret zd_X12_join_1.2.1.1.2 rfl
        · refine rn_icmp_ne_t (tgt := 46) hc28 zd_X12_join_1.1.2.2.2 rfl ?_
          exact rn_sub (ls' := [(0, .ref a0), (1, .int x1)]) [0, 1] rfl (ok_j_X12_join_46 hW k_a0 h)
abbrev P_X12_undo_21 (G : zG) (K : zK) (R : zR) (L : zL) (a0 : Nat) (r : Option Value) (S' : zS) (v : Int32 × zM) : Prop := Rn G mt_X12_undo 21 [(0, .ref a0), (1, .int v.1)] [] (v.2, L, R, K) r S'
abbrev Q_X12_undo_21 (G : zG) (K : zK) (R : zR) (L : zL) (a0 : Nat) (r : Option Value) (S' : zS) : (zM) → Prop := (fun e => Rn G mt_X12_undo 53 [] [] (e, L, R, K) r S')
def b_X12_undo_21 (R : zR) (M : zM) (a0 : Nat) (x1 : Int32) : Option ((Int32 × zM) ⊕ ((zM))) :=
  if (60 : Int32) ≤ x1 then (
    some (.inr M)
  ) else (
    zck (zin (((60 : Int32) * (M a0 48)) + x1) 1800) <|
    zck (zin x1 60) <|
    zlt (zup M (R a0 45) (ztn x1) (M (R a0 49) (ztn (((60 : Int32) * (M a0 48)) + x1)))) fun M6 =>
    some (.inl ((x1 + 1), M6))
  )
set_option maxRecDepth 4000 in
theorem ok_b_X12_undo_21 {G : zG} {K : zK} {R : zR} {M : zM} {L : zL} (hW : zWT R K) {a0 : Nat} {x1 : Int32} (k_a0 : K[a0]? = some (12, 61)) {r : Option Value} {S' : zS} {x : (Int32 × zM) ⊕ ((zM))} (h : b_X12_undo_21 R M a0 x1 = some x) (hk : Sum.elim (P_X12_undo_21 G K R L a0 r S') (Q_X12_undo_21 G K R L a0 r S') x) : P_X12_undo_21 G K R L a0 r S' (x1, M) := by
  show Rn G mt_X12_undo 21 [(0, .ref a0), (1, .int x1)] [] (M, L, R, K) r S'
  unfold b_X12_undo_21 at h
  refine rn_iload_n (q := 1) 1 rfl zd_X12_undo_0.2.2.1.2 ?_
  refine rn_bipush (v := 60) zd_X12_undo_0.2.2.2.1 rfl ?_
  rcases zif_e h with ⟨hc3, h⟩ | ⟨hc3, h⟩
  · refine rn_icmp_ge_t (tgt := 53) hc3 zd_X12_undo_0.2.2.2.2 rfl ?_
    cases h
    exact rn_sub (ls' := []) [] rfl hk
  · refine rn_icmp_ge_f (tgt := 53) hc3 zd_X12_undo_0.2.2.2.2 rfl ?_
    refine rn_aload_n (q := 0) 0 rfl zd_X12_undo_1.1.1.1.1 ?_
    refine rn_getR zf_X12_101 (Or.inr ⟨_, rfl⟩) k_a0 (zx_12_45 hW k_a0) zd_X12_undo_1.1.1.1.2 ?_
    refine rn_iload_n (q := 1) 1 rfl zd_X12_undo_1.1.1.2.1 ?_
    refine rn_aload_n (q := 0) 0 rfl zd_X12_undo_1.1.1.2.2 ?_
    refine rn_getR zf_X12_110 (Or.inr ⟨_, rfl⟩) k_a0 (zx_12_49 hW k_a0) zd_X12_undo_1.1.2.1.1 ?_
    refine rn_bipush (v := 60) zd_X12_undo_1.1.2.1.2 rfl ?_
    refine rn_aload_n (q := 0) 0 rfl zd_X12_undo_1.1.2.2.1 ?_
    refine rn_getI zf_X12_230 (Or.inl rfl) k_a0 zd_X12_undo_1.1.2.2.2 ?_
    refine rn_imul zd_X12_undo_1.2.1.1.1 ?_
    refine rn_iload_n (q := 1) 1 rfl zd_X12_undo_1.2.1.1.2 ?_
    refine rn_iadd zd_X12_undo_1.2.1.2.1 ?_
    obtain ⟨hc4, h⟩ := zck_e h
    refine rn_iald (zw_12_49 hW k_a0) hc4 zd_X12_undo_1.2.1.2.2 ?_
    obtain ⟨hc5, h⟩ := zck_e h
    obtain ⟨M6, hM6, h⟩ := zlt_e h
    refine rn_iast hM6 (zw_12_45 hW k_a0) hc5 zd_X12_undo_1.2.2.1.1 ?_
    refine rn_iinc (v := (x1 + 1)) (ls' := [(1, .int (x1 + 1)), (0, .ref a0)]) 1 rfl rfl (by decide) rfl zd_X12_undo_1.2.2.1.2 ?_
    refine rn_goto (tgt := 21) zd_X12_undo_1.2.2.2.1 rfl ?_
    cases h
    exact rn_sub (ls' := [(0, .ref a0), (1, .int (x1 + 1))]) [1, 0] rfl hk
def f_X12_undo (R : zR) (M : zM) (a0 : Nat) : Option (Int32 × zM) :=
  if (M a0 48) = 0 then (
    some ((0 : Int32), M)
  ) else (
    zlt (zup M a0 48 ((M a0 48) - (1 : Int32))) fun M2 =>
    zbd (zloop zN (fun v => b_X12_undo_21 R v.2 a0 v.1) ((0 : Int32), M2)) fun e7 =>
    some ((1 : Int32), e7)
  )
set_option maxRecDepth 4000 in
theorem ok_X12_undo {G : zG} {K : zK} {R : zR} {M : zM} {L : zL} (hW : zWT R K) {a0 : Nat} (k_a0 : K[a0]? = some (12, 61)) {r' : Int32} {M' : zM} (h : f_X12_undo R M a0 = some (r', M')) : Rm G mt_X12_undo [.ref a0] (M, L, R, K) (some (.int r')) (M', L, R, K) := by
  refine rm_rn rfl rfl (Nat.le_of_ble_eq_true rfl) ?_
  show Rn G mt_X12_undo 0 [(0, .ref a0)] [] (M, L, R, K) (some (.int r')) (M', L, R, K)
  unfold f_X12_undo at h
  refine rn_aload_n (q := 0) 0 rfl zd_X12_undo_0.1.1.1.1 ?_
  refine rn_getI zf_X12_230 (Or.inl rfl) k_a0 zd_X12_undo_0.1.1.1.2 ?_
  rcases zif_e h with ⟨hc1, h⟩ | ⟨hc1, h⟩
  · refine rn_if_ne_f (tgt := 9) hc1 zd_X12_undo_0.1.1.2.1 rfl ?_
    refine rn_iconst (v := 0) zd_X12_undo_0.1.1.2.2 rfl ?_
    cases h
    exact rn_zret zd_X12_undo_0.1.2.1.1 rfl rfl
  · refine rn_if_ne_t (tgt := 9) hc1 zd_X12_undo_0.1.1.2.1 rfl ?_
    refine rn_aload_n (q := 0) 0 rfl zd_X12_undo_0.1.2.1.2 ?_
    refine rn_dup zd_X12_undo_0.1.2.2.1 rfl ?_
    refine rn_getI zf_X12_230 (Or.inl rfl) k_a0 zd_X12_undo_0.1.2.2.2 ?_
    refine rn_iconst (v := 1) zd_X12_undo_0.2.1.1.1 rfl ?_
    refine rn_isub zd_X12_undo_0.2.1.1.2 ?_
    obtain ⟨M2, hM2, h⟩ := zlt_e h
    refine rn_putI hM2 zf_X12_230 k_a0 zd_X12_undo_0.2.1.2.1 ?_
    refine rn_iconst (v := 0) zd_X12_undo_0.2.1.2.2 rfl ?_
    refine rn_istore_n (q := 1) (ls' := [(1, .int (0 : Int32)), (0, .ref a0)]) (by decide) rfl zd_X12_undo_0.2.2.1.1 ?_
    obtain ⟨e7, he7, h⟩ := zbd_e h
    refine rn_sub (ls' := [(0, .ref a0), (1, .int (0 : Int32))]) [1, 0] rfl (zloop_ok (P := P_X12_undo_21 G K R L a0 (some (.int r')) (M', L, R, K)) (Q := Q_X12_undo_21 G K R L a0 (some (.int r')) (M', L, R, K)) (fun v x hx hq => ok_b_X12_undo_21 hW k_a0 hx hq) _ _ _ he7 ?_)
    show Rn G mt_X12_undo 53 [] [] (e7, L, R, K) (some (.int r')) (M', L, R, K)
    refine rn_iconst (v := 1) zd_X12_undo_1.2.2.2.2 rfl ?_
    cases h
    exact rn_zret zd_X12_undo_2 rfl rfl
abbrev P_X12_isAlike_2 (G : zG) (K : zK) (R : zR) (M : zM) (L : zL) (a0 : Nat) (x1 : Int32) (x2 : Int32) (r : Option Value) (S' : zS) (v : Int32) : Prop := Rn G mt_X12_isAlike 2 [(0, .ref a0), (1, .int x1), (2, .int x2), (3, .int v)] [] (M, L, R, K) r S'
abbrev Q_X12_isAlike_2 (G : zG) (K : zK) (R : zR) (M : zM) (L : zL) (a0 : Nat) (x1 : Int32) (x2 : Int32) (r : Option Value) (S' : zS) : (Unit) ⊕ (Unit) → Prop := (Sum.elim (fun e => Rn G mt_X12_isAlike 33 [] [] (M, L, R, K) r S') (fun e => Rn G mt_X12_isAlike 41 [] [] (M, L, R, K) r S'))
def b_X12_isAlike_2 (R : zR) (M : zM) (a0 : Nat) (x1 : Int32) (x2 : Int32) (x3 : Int32) : Option ((Int32) ⊕ ((Unit) ⊕ (Unit))) :=
  if (21 : Int32) ≤ x3 then (
    some (.inr (.inr ()))
  ) else (
    zck (zin (((21 : Int32) * x1) + x3) 6321) <|
    zck (zin (((21 : Int32) * x2) + x3) 6321) <|
    if (M (R a0 50) (ztn (((21 : Int32) * x1) + x3))) = (M (R a0 50) (ztn (((21 : Int32) * x2) + x3))) then (
      some (.inl (x3 + 1))
    ) else (
      some (.inr (.inl ()))
    )
  )
set_option maxRecDepth 4000 in
theorem ok_b_X12_isAlike_2 {G : zG} {K : zK} {R : zR} {M : zM} {L : zL} (hW : zWT R K) {a0 : Nat} {x1 : Int32} {x2 : Int32} {x3 : Int32} (k_a0 : K[a0]? = some (12, 61)) {r : Option Value} {S' : zS} {x : (Int32) ⊕ ((Unit) ⊕ (Unit))} (h : b_X12_isAlike_2 R M a0 x1 x2 x3 = some x) (hk : Sum.elim (P_X12_isAlike_2 G K R M L a0 x1 x2 r S') (Q_X12_isAlike_2 G K R M L a0 x1 x2 r S') x) : P_X12_isAlike_2 G K R M L a0 x1 x2 r S' x3 := by
  show Rn G mt_X12_isAlike 2 [(0, .ref a0), (1, .int x1), (2, .int x2), (3, .int x3)] [] (M, L, R, K) r S'
  unfold b_X12_isAlike_2 at h
  refine rn_iload_n (q := 3) 3 rfl zd_X12_isAlike_0.1.1.2.1 ?_
  refine rn_bipush (v := 21) zd_X12_isAlike_0.1.1.2.2 rfl ?_
  rcases zif_e h with ⟨hc1, h⟩ | ⟨hc1, h⟩
  · refine rn_icmp_ge_t (tgt := 41) hc1 zd_X12_isAlike_0.1.2.1.1 rfl ?_
    cases h
    exact rn_sub (ls' := []) [] rfl hk
  · refine rn_icmp_ge_f (tgt := 41) hc1 zd_X12_isAlike_0.1.2.1.1 rfl ?_
    refine rn_aload_n (q := 0) 0 rfl zd_X12_isAlike_0.1.2.1.2 ?_
    refine rn_getR zf_X12_113 (Or.inr ⟨_, rfl⟩) k_a0 (zx_12_50 hW k_a0) zd_X12_isAlike_0.1.2.2.1 ?_
    refine rn_bipush (v := 21) zd_X12_isAlike_0.1.2.2.2 rfl ?_
    refine rn_iload_n (q := 1) 1 rfl zd_X12_isAlike_0.2.1.1.1 ?_
    refine rn_imul zd_X12_isAlike_0.2.1.1.2 ?_
    refine rn_iload_n (q := 3) 3 rfl zd_X12_isAlike_0.2.1.2.1 ?_
    refine rn_iadd zd_X12_isAlike_0.2.1.2.2 ?_
    obtain ⟨hc2, h⟩ := zck_e h
    refine rn_iald (zw_12_50 hW k_a0) hc2 zd_X12_isAlike_0.2.2.1.1 ?_
    refine rn_aload_n (q := 0) 0 rfl zd_X12_isAlike_0.2.2.1.2 ?_
    refine rn_getR zf_X12_113 (Or.inr ⟨_, rfl⟩) k_a0 (zx_12_50 hW k_a0) zd_X12_isAlike_0.2.2.2.1 ?_
    refine rn_bipush (v := 21) zd_X12_isAlike_0.2.2.2.2 rfl ?_
    refine rn_iload_n (q := 2) 2 rfl zd_X12_isAlike_1.1.1.1 ?_
    refine rn_imul zd_X12_isAlike_1.1.1.2.1 ?_
    refine rn_iload_n (q := 3) 3 rfl zd_X12_isAlike_1.1.1.2.2 ?_
    refine rn_iadd zd_X12_isAlike_1.1.2.1 ?_
    obtain ⟨hc3, h⟩ := zck_e h
    refine rn_iald (zw_12_50 hW k_a0) hc3 zd_X12_isAlike_1.1.2.2.1 ?_
    rcases zif_e h with ⟨hc4, h⟩ | ⟨hc4, h⟩
    · refine rn_icmp_eq_t (tgt := 35) hc4 zd_X12_isAlike_1.1.2.2.2 rfl ?_
      refine rn_iinc (v := (x3 + 1)) (ls' := [(3, .int (x3 + 1)), (0, .ref a0), (1, .int x1), (2, .int x2)]) 3 rfl rfl (by decide) rfl zd_X12_isAlike_1.2.1.2.2 ?_
      refine rn_goto (tgt := 2) zd_X12_isAlike_1.2.2.1 rfl ?_
      cases h
      exact rn_sub (ls' := [(0, .ref a0), (1, .int x1), (2, .int x2), (3, .int (x3 + 1))]) [1, 2, 3, 0] rfl hk
    · refine rn_icmp_eq_f (tgt := 35) hc4 zd_X12_isAlike_1.1.2.2.2 rfl ?_
      cases h
      exact rn_sub (ls' := []) [] rfl hk
def f_X12_isAlike (R : zR) (M : zM) (a0 : Nat) (x1 : Int32) (x2 : Int32) : Option (Int32) :=
  zbd (zloop zN (fun v => b_X12_isAlike_2 R M a0 x1 x2 v) (0 : Int32)) fun e5 =>
  Sum.elim (fun e6 =>
    some (0 : Int32)
  ) (fun e7 =>
    some (1 : Int32)
  ) e5
set_option maxRecDepth 4000 in
theorem ok_X12_isAlike {G : zG} {K : zK} {R : zR} {M : zM} {L : zL} (hW : zWT R K) {a0 : Nat} {x1 : Int32} {x2 : Int32} (k_a0 : K[a0]? = some (12, 61)) {r' : Int32} (h : f_X12_isAlike R M a0 x1 x2 = some r') : Rm G mt_X12_isAlike [.ref a0, .int x1, .int x2] (M, L, R, K) (some (.int r')) (M, L, R, K) := by
  refine rm_rn rfl rfl (Nat.le_of_ble_eq_true rfl) ?_
  show Rn G mt_X12_isAlike 0 [(0, .ref a0), (1, .int x1), (2, .int x2)] [] (M, L, R, K) (some (.int r')) (M, L, R, K)
  unfold f_X12_isAlike at h
  refine rn_iconst (v := 0) zd_X12_isAlike_0.1.1.1.1 rfl ?_
  refine rn_istore_n (q := 3) (ls' := [(3, .int (0 : Int32)), (0, .ref a0), (1, .int x1), (2, .int x2)]) (by decide) rfl zd_X12_isAlike_0.1.1.1.2 ?_
  obtain ⟨e5, he5, h⟩ := zbd_e h
  refine rn_sub (ls' := [(0, .ref a0), (1, .int x1), (2, .int x2), (3, .int (0 : Int32))]) [1, 2, 3, 0] rfl (zloop_ok (P := P_X12_isAlike_2 G K R M L a0 x1 x2 (some (.int r')) (M, L, R, K)) (Q := Q_X12_isAlike_2 G K R M L a0 x1 x2 (some (.int r')) (M, L, R, K)) (fun v x hx hq => ok_b_X12_isAlike_2 hW k_a0 hx hq) _ _ _ he5 ?_)
  rcases e5 with e6 | e7
  · rw [Sum.elim_inl] at h
    show Rn G mt_X12_isAlike 33 [] [] (M, L, R, K) (some (.int r')) (M, L, R, K)
    refine rn_iconst (v := 0) zd_X12_isAlike_1.2.1.1 rfl ?_
    cases h
    exact rn_zret zd_X12_isAlike_1.2.1.2.1 rfl rfl
  · rw [Sum.elim_inr] at h
    show Rn G mt_X12_isAlike 41 [] [] (M, L, R, K) (some (.int r')) (M, L, R, K)
    refine rn_iconst (v := 1) zd_X12_isAlike_1.2.2.2.1 rfl ?_
    cases h
    exact rn_zret zd_X12_isAlike_1.2.2.2.2 rfl rfl
abbrev P_X12_becomes_17 (G : zG) (K : zK) (R : zR) (L : zL) (a0 : Nat) (x1 : Int32) (r : Option Value) (S' : zS) (v : Int32 × zM) : Prop := Rn G mt_X12_becomes 17 [(0, .ref a0), (1, .int x1), (2, .int v.1)] [] (v.2, L, R, K) r S'
abbrev Q_X12_becomes_17 (G : zG) (K : zK) (R : zR) (L : zL) (a0 : Nat) (x1 : Int32) (r : Option Value) (S' : zS) : (zM) → Prop := (fun e => Rn G mt_X12_becomes 93 [(0, .ref a0), (1, .int x1)] [] (e, L, R, K) r S')
abbrev P_X12_becomes_26 (G : zG) (K : zK) (R : zR) (L : zL) (a0 : Nat) (x1 : Int32) (x2 : Int32) (r : Option Value) (S' : zS) (v : Int32 × zM) : Prop := Rn G mt_X12_becomes 26 [(0, .ref a0), (1, .int x1), (2, .int x2), (3, .int v.1)] [] (v.2, L, R, K) r S'
abbrev Q_X12_becomes_26 (G : zG) (K : zK) (R : zR) (L : zL) (a0 : Nat) (x1 : Int32) (x2 : Int32) (r : Option Value) (S' : zS) : (zM) → Prop := (fun e => Rn G mt_X12_becomes 55 [(0, .ref a0), (1, .int x1), (2, .int x2)] [] (e, L, R, K) r S')
def b_X12_becomes_26 (R : zR) (M : zM) (a0 : Nat) (x1 : Int32) (x2 : Int32) (x3 : Int32) : Option ((Int32 × zM) ⊕ ((zM))) :=
  if (20 : Int32) ≤ x3 then (
    some (.inr M)
  ) else (
    zck (zin x3 60) <|
    zck (zin (((21 : Int32) * x2) + x3) 6321) <|
    zlt (zup M (R a0 50) (ztn (((21 : Int32) * x2) + x3)) (M (R a0 46) (ztn x3))) fun M10 =>
    some (.inl ((x3 + 1), M10))
  )
set_option maxRecDepth 4000 in
theorem ok_b_X12_becomes_26 {G : zG} {K : zK} {R : zR} {M : zM} {L : zL} (hW : zWT R K) {a0 : Nat} {x1 : Int32} {x2 : Int32} {x3 : Int32} (k_a0 : K[a0]? = some (12, 61)) {r : Option Value} {S' : zS} {x : (Int32 × zM) ⊕ ((zM))} (h : b_X12_becomes_26 R M a0 x1 x2 x3 = some x) (hk : Sum.elim (P_X12_becomes_26 G K R L a0 x1 x2 r S') (Q_X12_becomes_26 G K R L a0 x1 x2 r S') x) : P_X12_becomes_26 G K R L a0 x1 x2 r S' (x3, M) := by
  show Rn G mt_X12_becomes 26 [(0, .ref a0), (1, .int x1), (2, .int x2), (3, .int x3)] [] (M, L, R, K) r S'
  unfold b_X12_becomes_26 at h
  refine rn_iload_n (q := 3) 3 rfl zd_X12_becomes_1.1.1.1.1 ?_
  refine rn_bipush (v := 20) zd_X12_becomes_1.1.1.1.2 rfl ?_
  rcases zif_e h with ⟨hc7, h⟩ | ⟨hc7, h⟩
  · refine rn_icmp_ge_t (tgt := 55) hc7 zd_X12_becomes_1.1.1.2.1 rfl ?_
    cases h
    exact rn_sub (ls' := [(0, .ref a0), (1, .int x1), (2, .int x2)]) [0, 1, 2] rfl hk
  · refine rn_icmp_ge_f (tgt := 55) hc7 zd_X12_becomes_1.1.1.2.1 rfl ?_
    refine rn_aload_n (q := 0) 0 rfl zd_X12_becomes_1.1.1.2.2 ?_
    refine rn_getR zf_X12_113 (Or.inr ⟨_, rfl⟩) k_a0 (zx_12_50 hW k_a0) zd_X12_becomes_1.1.2.1.1 ?_
    refine rn_bipush (v := 21) zd_X12_becomes_1.1.2.1.2 rfl ?_
    refine rn_iload_n (q := 2) 2 rfl zd_X12_becomes_1.1.2.2.1 ?_
    refine rn_imul zd_X12_becomes_1.1.2.2.2 ?_
    refine rn_iload_n (q := 3) 3 rfl zd_X12_becomes_1.2.1.1.1 ?_
    refine rn_iadd zd_X12_becomes_1.2.1.1.2 ?_
    refine rn_aload_n (q := 0) 0 rfl zd_X12_becomes_1.2.1.2.1 ?_
    refine rn_getR zf_X12_104 (Or.inr ⟨_, rfl⟩) k_a0 (zx_12_46 hW k_a0) zd_X12_becomes_1.2.1.2.2 ?_
    refine rn_iload_n (q := 3) 3 rfl zd_X12_becomes_1.2.2.1.1 ?_
    obtain ⟨hc8, h⟩ := zck_e h
    refine rn_iald (zw_12_46 hW k_a0) hc8 zd_X12_becomes_1.2.2.1.2 ?_
    obtain ⟨hc9, h⟩ := zck_e h
    obtain ⟨M10, hM10, h⟩ := zlt_e h
    refine rn_iast hM10 (zw_12_50 hW k_a0) hc9 zd_X12_becomes_1.2.2.2.1 ?_
    refine rn_iinc (v := (x3 + 1)) (ls' := [(3, .int (x3 + 1)), (0, .ref a0), (1, .int x1), (2, .int x2)]) 3 rfl rfl (by decide) rfl zd_X12_becomes_1.2.2.2.2 ?_
    refine rn_goto (tgt := 26) zd_X12_becomes_2.1.1.1.1 rfl ?_
    cases h
    exact rn_sub (ls' := [(0, .ref a0), (1, .int x1), (2, .int x2), (3, .int (x3 + 1))]) [1, 2, 3, 0] rfl hk
def b_X12_becomes_17 (R : zR) (M : zM) (a0 : Nat) (x1 : Int32) (x2 : Int32) : Option ((Int32 × zM) ⊕ ((zM))) :=
  if (300 : Int32) < x2 then (
    some (.inr M)
  ) else (
    zbd (zloop zN (fun v => b_X12_becomes_26 R v.2 a0 x1 x2 v.1) ((0 : Int32), M)) fun e11 =>
    zck (zin (((21 : Int32) * x2) + (20 : Int32)) 6321) <|
    zlt (zup e11 (R a0 50) (ztn (((21 : Int32) * x2) + (20 : Int32))) (e11 (R a0 46) (ztn (41 : Int32)))) fun M13 =>
    zck (zin (M13 a0 18) 2) <|
    zbd (f_X12_evening R M13 a0 (M13 (R a0 26) (ztn (M13 a0 18)))) fun M15 =>
    some (.inl ((x2 + 1), M15))
  )
set_option maxRecDepth 4000 in
theorem ok_b_X12_becomes_17 {G : zG} {K : zK} {R : zR} {M : zM} {L : zL} (hW : zWT R K) {a0 : Nat} {x1 : Int32} {x2 : Int32} (k_a0 : K[a0]? = some (12, 61)) {r : Option Value} {S' : zS} {x : (Int32 × zM) ⊕ ((zM))} (h : b_X12_becomes_17 R M a0 x1 x2 = some x) (hk : Sum.elim (P_X12_becomes_17 G K R L a0 x1 r S') (Q_X12_becomes_17 G K R L a0 x1 r S') x) : P_X12_becomes_17 G K R L a0 x1 r S' (x2, M) := by
  show Rn G mt_X12_becomes 17 [(0, .ref a0), (1, .int x1), (2, .int x2)] [] (M, L, R, K) r S'
  unfold b_X12_becomes_17 at h
  refine rn_iload_n (q := 2) 2 rfl zd_X12_becomes_0.2.1.2.2 ?_
  refine rn_sipush (v := 300) zd_X12_becomes_0.2.2.1.1 rfl ?_
  rcases zif_e h with ⟨hc6, h⟩ | ⟨hc6, h⟩
  · refine rn_icmp_gt_t (tgt := 93) hc6 zd_X12_becomes_0.2.2.1.2 rfl ?_
    cases h
    exact rn_sub (ls' := [(0, .ref a0), (1, .int x1)]) [0, 1] rfl hk
  · refine rn_icmp_gt_f (tgt := 93) hc6 zd_X12_becomes_0.2.2.1.2 rfl ?_
    refine rn_iconst (v := 0) zd_X12_becomes_0.2.2.2.1 rfl ?_
    refine rn_istore_n (q := 3) (ls' := [(3, .int (0 : Int32)), (0, .ref a0), (1, .int x1), (2, .int x2)]) (by decide) rfl zd_X12_becomes_0.2.2.2.2 ?_
    obtain ⟨e11, he11, h⟩ := zbd_e h
    refine rn_sub (ls' := [(0, .ref a0), (1, .int x1), (2, .int x2), (3, .int (0 : Int32))]) [1, 2, 3, 0] rfl (zloop_ok (P := P_X12_becomes_26 G K R L a0 x1 x2 r S') (Q := Q_X12_becomes_26 G K R L a0 x1 x2 r S') (fun v x hx hq => ok_b_X12_becomes_26 hW k_a0 hx hq) _ _ _ he11 ?_)
    show Rn G mt_X12_becomes 55 [(0, .ref a0), (1, .int x1), (2, .int x2)] [] (e11, L, R, K) r S'
    refine rn_aload_n (q := 0) 0 rfl zd_X12_becomes_2.1.1.1.2 ?_
    refine rn_getR zf_X12_113 (Or.inr ⟨_, rfl⟩) k_a0 (zx_12_50 hW k_a0) zd_X12_becomes_2.1.1.2.1 ?_
    refine rn_bipush (v := 21) zd_X12_becomes_2.1.1.2.2 rfl ?_
    refine rn_iload_n (q := 2) 2 rfl zd_X12_becomes_2.1.2.1.1 ?_
    refine rn_imul zd_X12_becomes_2.1.2.1.2 ?_
    refine rn_bipush (v := 20) zd_X12_becomes_2.1.2.2.1 rfl ?_
    refine rn_iadd zd_X12_becomes_2.1.2.2.2 ?_
    refine rn_aload_n (q := 0) 0 rfl zd_X12_becomes_2.2.1.1.1 ?_
    refine rn_getR zf_X12_104 (Or.inr ⟨_, rfl⟩) k_a0 (zx_12_46 hW k_a0) zd_X12_becomes_2.2.1.1.2 ?_
    refine rn_bipush (v := 41) zd_X12_becomes_2.2.1.2.1 rfl ?_
    refine rn_iald (zw_12_46 hW k_a0) (by decide) zd_X12_becomes_2.2.1.2.2 ?_
    obtain ⟨hc12, h⟩ := zck_e h
    obtain ⟨M13, hM13, h⟩ := zlt_e h
    refine rn_iast hM13 (zw_12_50 hW k_a0) hc12 zd_X12_becomes_2.2.2.1.1 ?_
    refine rn_aload_n (q := 0) 0 rfl zd_X12_becomes_2.2.2.1.2 ?_
    refine rn_aload_n (q := 0) 0 rfl zd_X12_becomes_2.2.2.2.1 ?_
    refine rn_getR zf_X12_56 (Or.inr ⟨_, rfl⟩) k_a0 (zx_12_26 hW k_a0) zd_X12_becomes_2.2.2.2.2 ?_
    refine rn_aload_n (q := 0) 0 rfl zd_X12_becomes_3.1.1.1.1 ?_
    refine rn_getI zf_X12_212 (Or.inl rfl) k_a0 zd_X12_becomes_3.1.1.1.2 ?_
    obtain ⟨hc14, h⟩ := zck_e h
    refine rn_iald (zw_12_26 hW k_a0) hc14 zd_X12_becomes_3.1.1.2.1 ?_
    obtain ⟨M15, h16, h⟩ := zbd_e h
    refine rn_callVv (As := [.int (M13 (R a0 26) (ztn (M13 a0 18)))]) (rest := []) zl_X12_322 zm_X12_evening ⟨by decide, by decide⟩ (ci := 12) rfl rfl (by decide) k_a0 rfl rfl (Nat.le_of_ble_eq_true rfl) zd_X12_becomes_3.1.1.2.2 (ok_X12_evening hW k_a0 h16) ?_
    refine rn_iinc (v := (x2 + 1)) (ls' := [(2, .int (x2 + 1)), (0, .ref a0), (1, .int x1)]) 2 rfl rfl (by decide) rfl zd_X12_becomes_3.1.2.1.1 ?_
    refine rn_goto (tgt := 17) zd_X12_becomes_3.1.2.1.2 rfl ?_
    cases h
    exact rn_sub (ls' := [(0, .ref a0), (1, .int x1), (2, .int (x2 + 1))]) [1, 2, 0] rfl hk
abbrev P_X12_becomes_95 (G : zG) (K : zK) (R : zR) (M : zM) (L : zL) (a0 : Nat) (x1 : Int32) (r : Option Value) (S' : zS) (v : Int32) : Prop := Rn G mt_X12_becomes 95 [(0, .ref a0), (1, .int x1), (2, .int v)] [] (M, L, R, K) r S'
abbrev Q_X12_becomes_95 (G : zG) (K : zK) (R : zR) (M : zM) (L : zL) (a0 : Nat) (x1 : Int32) (r : Option Value) (S' : zS) : (Int32 × Int32) ⊕ (Unit) → Prop := (Sum.elim (fun e => Rn G mt_X12_becomes 124 [(1, .int x1), (2, .int e.1), (3, .int e.2)] [] (M, L, R, K) r S') (fun e => Rn G mt_X12_becomes 146 [] [] (M, L, R, K) r S'))
abbrev P_X12_becomes_104 (G : zG) (K : zK) (R : zR) (M : zM) (L : zL) (a0 : Nat) (x1 : Int32) (x2 : Int32) (r : Option Value) (S' : zS) (v : Int32) : Prop := Rn G mt_X12_becomes 104 [(0, .ref a0), (1, .int x1), (2, .int x2), (3, .int v)] [] (M, L, R, K) r S'
abbrev Q_X12_becomes_104 (G : zG) (K : zK) (R : zR) (M : zM) (L : zL) (a0 : Nat) (x1 : Int32) (x2 : Int32) (r : Option Value) (S' : zS) : (Int32) ⊕ (Unit) → Prop := (Sum.elim (fun e => Rn G mt_X12_becomes 124 [(1, .int x1), (2, .int x2), (3, .int e)] [] (M, L, R, K) r S') (fun e => Rn G mt_X12_becomes 140 [(0, .ref a0), (1, .int x1), (2, .int x2)] [] (M, L, R, K) r S'))
def b_X12_becomes_104 (R : zR) (M : zM) (a0 : Nat) (x1 : Int32) (x2 : Int32) (x3 : Int32) : Option ((Int32) ⊕ ((Int32) ⊕ (Unit))) :=
  if (300 : Int32) < (x3 + x2) then (
    some (.inr (.inr ()))
  ) else (
    zbd (f_X12_isAlike R M a0 x3 (x3 + x2)) fun r20 =>
    if r20 = 0 then (
      some (.inl (x3 + 1))
    ) else (
      some (.inr (.inl x3))
    )
  )
set_option maxRecDepth 4000 in
theorem ok_b_X12_becomes_104 {G : zG} {K : zK} {R : zR} {M : zM} {L : zL} (hW : zWT R K) {a0 : Nat} {x1 : Int32} {x2 : Int32} {x3 : Int32} (k_a0 : K[a0]? = some (12, 61)) {r : Option Value} {S' : zS} {x : (Int32) ⊕ ((Int32) ⊕ (Unit))} (h : b_X12_becomes_104 R M a0 x1 x2 x3 = some x) (hk : Sum.elim (P_X12_becomes_104 G K R M L a0 x1 x2 r S') (Q_X12_becomes_104 G K R M L a0 x1 x2 r S') x) : P_X12_becomes_104 G K R M L a0 x1 x2 r S' x3 := by
  show Rn G mt_X12_becomes 104 [(0, .ref a0), (1, .int x1), (2, .int x2), (3, .int x3)] [] (M, L, R, K) r S'
  unfold b_X12_becomes_104 at h
  refine rn_iload_n (q := 3) 3 rfl zd_X12_becomes_3.2.2.1.2 ?_
  refine rn_iload_n (q := 2) 2 rfl zd_X12_becomes_3.2.2.2.1 ?_
  refine rn_iadd zd_X12_becomes_3.2.2.2.2 ?_
  refine rn_sipush (v := 300) zd_X12_becomes_4.1.1.1.1 rfl ?_
  rcases zif_e h with ⟨hc19, h⟩ | ⟨hc19, h⟩
  · refine rn_icmp_gt_t (tgt := 140) hc19 zd_X12_becomes_4.1.1.1.2 rfl ?_
    cases h
    exact rn_sub (ls' := [(0, .ref a0), (1, .int x1), (2, .int x2)]) [0, 1, 2] rfl hk
  · refine rn_icmp_gt_f (tgt := 140) hc19 zd_X12_becomes_4.1.1.1.2 rfl ?_
    refine rn_aload_n (q := 0) 0 rfl zd_X12_becomes_4.1.1.2.1 ?_
    refine rn_iload_n (q := 3) 3 rfl zd_X12_becomes_4.1.1.2.2 ?_
    refine rn_iload_n (q := 3) 3 rfl zd_X12_becomes_4.1.2.1.1 ?_
    refine rn_iload_n (q := 2) 2 rfl zd_X12_becomes_4.1.2.1.2 ?_
    refine rn_iadd zd_X12_becomes_4.1.2.2.1 ?_
    obtain ⟨r20, h21, h⟩ := zbd_e h
    refine rn_callVi (As := [.int x3, .int (x3 + x2)]) (rest := []) zl_X12_343 zm_X12_isAlike ⟨by decide, by decide⟩ (ci := 12) rfl rfl (by decide) k_a0 rfl rfl (Nat.le_of_ble_eq_true rfl) zd_X12_becomes_4.1.2.2.2 (ok_X12_isAlike hW k_a0 h21) ?_
    rcases zif_e h with ⟨hc22, h⟩ | ⟨hc22, h⟩
    · refine rn_if_eq_t (tgt := 134) hc22 zd_X12_becomes_4.2.1.1.1 rfl ?_
      refine rn_iinc (v := (x3 + 1)) (ls' := [(3, .int (x3 + 1)), (0, .ref a0), (1, .int x1), (2, .int x2)]) 3 rfl rfl (by decide) rfl zd_X12_becomes_4.2.2.2.2 ?_
      refine rn_goto (tgt := 104) zd_X12_becomes_5.1.1 rfl ?_
      cases h
      exact rn_sub (ls' := [(0, .ref a0), (1, .int x1), (2, .int x2), (3, .int (x3 + 1))]) [1, 2, 3, 0] rfl hk
    · refine rn_if_eq_f (tgt := 134) hc22 zd_X12_becomes_4.2.1.1.1 rfl ?_
      cases h
      exact rn_sub (ls' := [(1, .int x1), (2, .int x2), (3, .int x3)]) [1, 2, 3] rfl hk
def b_X12_becomes_95 (R : zR) (M : zM) (a0 : Nat) (x1 : Int32) (x2 : Int32) : Option ((Int32) ⊕ ((Int32 × Int32) ⊕ (Unit))) :=
  if (300 : Int32) < x2 then (
    some (.inr (.inr ()))
  ) else (
    zbd (zloop zN (fun v => b_X12_becomes_104 R M a0 x1 x2 v) (0 : Int32)) fun e23 =>
    Sum.elim (fun e24 =>
      some (.inr (.inl (x2, e24)))
    ) (fun e25 =>
      some (.inl (x2 + 1))
    ) e23
  )
set_option maxRecDepth 4000 in
theorem ok_b_X12_becomes_95 {G : zG} {K : zK} {R : zR} {M : zM} {L : zL} (hW : zWT R K) {a0 : Nat} {x1 : Int32} {x2 : Int32} (k_a0 : K[a0]? = some (12, 61)) {r : Option Value} {S' : zS} {x : (Int32) ⊕ ((Int32 × Int32) ⊕ (Unit))} (h : b_X12_becomes_95 R M a0 x1 x2 = some x) (hk : Sum.elim (P_X12_becomes_95 G K R M L a0 x1 r S') (Q_X12_becomes_95 G K R M L a0 x1 r S') x) : P_X12_becomes_95 G K R M L a0 x1 r S' x2 := by
  show Rn G mt_X12_becomes 95 [(0, .ref a0), (1, .int x1), (2, .int x2)] [] (M, L, R, K) r S'
  unfold b_X12_becomes_95 at h
  refine rn_iload_n (q := 2) 2 rfl zd_X12_becomes_3.2.1.1.1 ?_
  refine rn_sipush (v := 300) zd_X12_becomes_3.2.1.1.2 rfl ?_
  rcases zif_e h with ⟨hc18, h⟩ | ⟨hc18, h⟩
  · refine rn_icmp_gt_t (tgt := 146) hc18 zd_X12_becomes_3.2.1.2.1 rfl ?_
    cases h
    exact rn_sub (ls' := []) [] rfl hk
  · refine rn_icmp_gt_f (tgt := 146) hc18 zd_X12_becomes_3.2.1.2.1 rfl ?_
    refine rn_iconst (v := 0) zd_X12_becomes_3.2.1.2.2 rfl ?_
    refine rn_istore_n (q := 3) (ls' := [(3, .int (0 : Int32)), (0, .ref a0), (1, .int x1), (2, .int x2)]) (by decide) rfl zd_X12_becomes_3.2.2.1.1 ?_
    obtain ⟨e23, he23, h⟩ := zbd_e h
    refine rn_sub (ls' := [(0, .ref a0), (1, .int x1), (2, .int x2), (3, .int (0 : Int32))]) [1, 2, 3, 0] rfl (zloop_ok (P := P_X12_becomes_104 G K R M L a0 x1 x2 r S') (Q := Q_X12_becomes_104 G K R M L a0 x1 x2 r S') (fun v x hx hq => ok_b_X12_becomes_104 hW k_a0 hx hq) _ _ _ he23 ?_)
    rcases e23 with e24 | e25
    · rw [Sum.elim_inl] at h
      show Rn G mt_X12_becomes 124 [(1, .int x1), (2, .int x2), (3, .int e24)] [] (M, L, R, K) r S'
      cases h
      exact rn_sub (ls' := [(1, .int x1), (2, .int x2), (3, .int e24)]) [0, 1, 2] rfl hk
    · rw [Sum.elim_inr] at h
      show Rn G mt_X12_becomes 140 [(0, .ref a0), (1, .int x1), (2, .int x2)] [] (M, L, R, K) r S'
      refine rn_iinc (v := (x2 + 1)) (ls' := [(2, .int (x2 + 1)), (0, .ref a0), (1, .int x1)]) 2 rfl rfl (by decide) rfl zd_X12_becomes_5.1.2 ?_
      refine rn_goto (tgt := 95) zd_X12_becomes_5.2.1 rfl ?_
      cases h
      exact rn_sub (ls' := [(0, .ref a0), (1, .int x1), (2, .int (x2 + 1))]) [1, 2, 0] rfl hk
def f_X12_becomes (R : zR) (M : zM) (a0 : Nat) (x1 : Int32) : Option (Int32 × zM) :=
  zbd (f_X12_in x1 (0 : Int32) (1 : Int32)) fun r1 =>
  if r1 = 0 then (
    some ((-1 : Int32), M)
  ) else (
    zbd (f_X12_copies R M a0) fun M4 =>
    zbd (zloop zN (fun v => b_X12_becomes_17 R v.2 a0 x1 v.1) ((0 : Int32), M4)) fun e17 =>
    zbd (zloop zN (fun v => b_X12_becomes_95 R e17 a0 x1 v) (1 : Int32)) fun e26 =>
    Sum.elim (fun e27 =>
      if x1 = 0 then (
        some (e27.1, e17)
      ) else (
        some (e27.2, e17)
      )
    ) (fun e28 =>
      some ((-2 : Int32), e17)
    ) e26
  )
set_option maxRecDepth 4000 in
theorem ok_X12_becomes {G : zG} {K : zK} {R : zR} {M : zM} {L : zL} (hW : zWT R K) {a0 : Nat} {x1 : Int32} (k_a0 : K[a0]? = some (12, 61)) {r' : Int32} {M' : zM} (h : f_X12_becomes R M a0 x1 = some (r', M')) : Rm G mt_X12_becomes [.ref a0, .int x1] (M, L, R, K) (some (.int r')) (M', L, R, K) := by
  refine rm_rn rfl rfl (Nat.le_of_ble_eq_true rfl) ?_
  show Rn G mt_X12_becomes 0 [(0, .ref a0), (1, .int x1)] [] (M, L, R, K) (some (.int r')) (M', L, R, K)
  unfold f_X12_becomes at h
  refine rn_iload_n (q := 1) 1 rfl zd_X12_becomes_0.1.1.1.1 ?_
  refine rn_iconst (v := 0) zd_X12_becomes_0.1.1.1.2 rfl ?_
  refine rn_iconst (v := 1) zd_X12_becomes_0.1.1.2.1 rfl ?_
  obtain ⟨r1, h2, h⟩ := zbd_e h
  refine rn_callSi (As := [.int x1, .int (0 : Int32), .int (1 : Int32)]) (rest := []) zl_X12_276 zm_X12_in ⟨by decide, by decide⟩ rfl rfl (Nat.le_of_ble_eq_true rfl) zd_X12_becomes_0.1.1.2.2 (ok_X12_in hW h2) ?_
  rcases zif_e h with ⟨hc3, h⟩ | ⟨hc3, h⟩
  · refine rn_if_ne_f (tgt := 11) hc3 zd_X12_becomes_0.1.2.1.1 rfl ?_
    refine rn_iconst (v := -1) zd_X12_becomes_0.1.2.1.2 rfl ?_
    cases h
    exact rn_iret zd_X12_becomes_0.1.2.2.1 rfl
  · refine rn_if_ne_t (tgt := 11) hc3 zd_X12_becomes_0.1.2.1.1 rfl ?_
    refine rn_aload_n (q := 0) 0 rfl zd_X12_becomes_0.1.2.2.2 ?_
    obtain ⟨M4, h5, h⟩ := zbd_e h
    refine rn_callVv (As := []) (rest := []) zl_X12_328 zm_X12_copies ⟨by decide, by decide⟩ (ci := 12) rfl rfl (by decide) k_a0 rfl rfl (Nat.le_of_ble_eq_true rfl) zd_X12_becomes_0.2.1.1.1 (ok_X12_copies hW k_a0 h5) ?_
    refine rn_iconst (v := 0) zd_X12_becomes_0.2.1.1.2 rfl ?_
    refine rn_istore_n (q := 2) (ls' := [(2, .int (0 : Int32)), (0, .ref a0), (1, .int x1)]) (by decide) rfl zd_X12_becomes_0.2.1.2.1 ?_
    obtain ⟨e17, he17, h⟩ := zbd_e h
    refine rn_sub (ls' := [(0, .ref a0), (1, .int x1), (2, .int (0 : Int32))]) [1, 2, 0] rfl (zloop_ok (P := P_X12_becomes_17 G K R L a0 x1 (some (.int r')) (M', L, R, K)) (Q := Q_X12_becomes_17 G K R L a0 x1 (some (.int r')) (M', L, R, K)) (fun v x hx hq => ok_b_X12_becomes_17 hW k_a0 hx hq) _ _ _ he17 ?_)
    show Rn G mt_X12_becomes 93 [(0, .ref a0), (1, .int x1)] [] (e17, L, R, K) (some (.int r')) (M', L, R, K)
    refine rn_iconst (v := 1) zd_X12_becomes_3.1.2.2.1 rfl ?_
    refine rn_istore_n (q := 2) (ls' := [(2, .int (1 : Int32)), (0, .ref a0), (1, .int x1)]) (by decide) rfl zd_X12_becomes_3.1.2.2.2 ?_
    obtain ⟨e26, he26, h⟩ := zbd_e h
    refine rn_sub (ls' := [(0, .ref a0), (1, .int x1), (2, .int (1 : Int32))]) [1, 2, 0] rfl (zloop_ok (P := P_X12_becomes_95 G K R e17 L a0 x1 (some (.int r')) (M', L, R, K)) (Q := Q_X12_becomes_95 G K R e17 L a0 x1 (some (.int r')) (M', L, R, K)) (fun v x hx hq => ok_b_X12_becomes_95 hW k_a0 hx hq) _ _ _ he26 ?_)
    rcases e26 with e27 | e28
    · rw [Sum.elim_inl] at h
      show Rn G mt_X12_becomes 124 [(1, .int x1), (2, .int e27.1), (3, .int e27.2)] [] (e17, L, R, K) (some (.int r')) (M', L, R, K)
      refine rn_iload_n (q := 1) 0 rfl zd_X12_becomes_4.2.1.1.2 ?_
      rcases zif_e h with ⟨hc29, h⟩ | ⟨hc29, h⟩
      · refine rn_if_ne_f (tgt := 132) hc29 zd_X12_becomes_4.2.1.2.1 rfl ?_
        refine rn_iload_n (q := 2) 1 rfl zd_X12_becomes_4.2.1.2.2 ?_
        refine rn_goto (tgt := 133) zd_X12_becomes_4.2.2.1.1 rfl ?_
        cases h
        exact rn_iret zd_X12_becomes_4.2.2.2.1 rfl
      · refine rn_if_ne_t (tgt := 132) hc29 zd_X12_becomes_4.2.1.2.1 rfl ?_
        refine rn_iload_n (q := 3) 2 rfl zd_X12_becomes_4.2.2.1.2 ?_
        cases h
        exact rn_iret zd_X12_becomes_4.2.2.2.1 rfl
    · rw [Sum.elim_inr] at h
      show Rn G mt_X12_becomes 146 [] [] (e17, L, R, K) (some (.int r')) (M', L, R, K)
      refine rn_bipush (v := -2) zd_X12_becomes_5.2.2.1 rfl ?_
      cases h
      exact rn_iret zd_X12_becomes_5.2.2.2 rfl
abbrev P_X12_apartNow_28 (G : zG) (K : zK) (R : zR) (M : zM) (L : zL) (a0 : Nat) (r : Option Value) (S' : zS) (v : Int32 × Int32 × Int32) : Prop := Rn G mt_X12_apartNow 28 [(0, .ref a0), (1, .int v.1), (2, .int v.2.1), (3, .int v.2.2)] [] (M, L, R, K) r S'
abbrev Q_X12_apartNow_28 (G : zG) (K : zK) (R : zR) (M : zM) (L : zL) (a0 : Nat) (r : Option Value) (S' : zS) : (Int32 × Int32) → Prop := (fun e => Rn G mt_X12_apartNow 79 [(1, .int e.1), (2, .int e.2)] [] (M, L, R, K) r S')
def j_X12_apartNow_56 (R : zR) (M : zM) (a0 : Nat) (x1 : Int32) (x2 : Int32) (x3 : Int32) : Option ((Int32 × Int32 × Int32) ⊕ ((Int32 × Int32))) :=
  zck (zin x3 60) <|
  if (M (R a0 46) (ztn x3)) ≤ x2 then (
    some (.inl (x1, x2, (x3 + 1)))
  ) else (
    zck (zin x3 60) <|
    some (.inl (x1, (M (R a0 46) (ztn x3)), (x3 + 1)))
  )
set_option maxRecDepth 4000 in
theorem ok_j_X12_apartNow_56 {G : zG} {K : zK} {R : zR} {M : zM} {L : zL} (hW : zWT R K) {a0 : Nat} {x1 : Int32} {x2 : Int32} {x3 : Int32} (k_a0 : K[a0]? = some (12, 61)) {r : Option Value} {S' : zS} {x : (Int32 × Int32 × Int32) ⊕ ((Int32 × Int32))} (h : j_X12_apartNow_56 R M a0 x1 x2 x3 = some x) (hk : Sum.elim (P_X12_apartNow_28 G K R M L a0 r S') (Q_X12_apartNow_28 G K R M L a0 r S') x) : Rn G mt_X12_apartNow 56 [(0, .ref a0), (1, .int x1), (2, .int x2), (3, .int x3)] [] (M, L, R, K) r S' := by
  unfold j_X12_apartNow_56 at h
  refine rn_aload_n (q := 0) 0 rfl zd_X12_apartNow_2.1.2.1.1 ?_
  refine rn_getR zf_X12_104 (Or.inr ⟨_, rfl⟩) k_a0 (zx_12_46 hW k_a0) zd_X12_apartNow_2.1.2.1.2 ?_
  refine rn_iload_n (q := 3) 3 rfl zd_X12_apartNow_2.1.2.2.1 ?_
  obtain ⟨hc5, h⟩ := zck_e h
  refine rn_iald (zw_12_46 hW k_a0) hc5 zd_X12_apartNow_2.1.2.2.2 ?_
  refine rn_iload_n (q := 2) 2 rfl zd_X12_apartNow_2.2.1.1.1 ?_
  rcases zif_e h with ⟨hc6, h⟩ | ⟨hc6, h⟩
  · refine rn_icmp_le_t (tgt := 73) hc6 zd_X12_apartNow_2.2.1.1.2 rfl ?_
    refine rn_iinc (v := (x3 + 1)) (ls' := [(3, .int (x3 + 1)), (0, .ref a0), (1, .int x1), (2, .int x2)]) 3 rfl rfl (by decide) rfl zd_X12_apartNow_2.2.2.2.2 ?_
    refine rn_goto (tgt := 28) zd_X12_apartNow_3.1.1 rfl ?_
    cases h
    exact rn_sub (ls' := [(0, .ref a0), (1, .int x1), (2, .int x2), (3, .int (x3 + 1))]) [1, 2, 3, 0] rfl hk
  · refine rn_icmp_le_f (tgt := 73) hc6 zd_X12_apartNow_2.2.1.1.2 rfl ?_
    refine rn_aload_n (q := 0) 0 rfl zd_X12_apartNow_2.2.1.2.1 ?_
    refine rn_getR zf_X12_104 (Or.inr ⟨_, rfl⟩) k_a0 (zx_12_46 hW k_a0) zd_X12_apartNow_2.2.1.2.2 ?_
    refine rn_iload_n (q := 3) 3 rfl zd_X12_apartNow_2.2.2.1.1 ?_
    obtain ⟨hc7, h⟩ := zck_e h
    refine rn_iald (zw_12_46 hW k_a0) hc7 zd_X12_apartNow_2.2.2.1.2 ?_
    refine rn_istore_n (q := 2) (ls' := [(2, .int (M (R a0 46) (ztn x3))), (0, .ref a0), (1, .int x1), (3, .int x3)]) (by decide) rfl zd_X12_apartNow_2.2.2.2.1 ?_
    refine rn_iinc (v := (x3 + 1)) (ls' := [(3, .int (x3 + 1)), (2, .int (M (R a0 46) (ztn x3))), (0, .ref a0), (1, .int x1)]) 3 rfl rfl (by decide) rfl zd_X12_apartNow_2.2.2.2.2 ?_
    refine rn_goto (tgt := 28) zd_X12_apartNow_3.1.1 rfl ?_
    cases h
    exact rn_sub (ls' := [(0, .ref a0), (1, .int x1), (2, .int (M (R a0 46) (ztn x3))), (3, .int (x3 + 1))]) [2, 3, 1, 0] rfl hk
def b_X12_apartNow_28 (R : zR) (M : zM) (a0 : Nat) (x1 : Int32) (x2 : Int32) (x3 : Int32) : Option ((Int32 × Int32 × Int32) ⊕ ((Int32 × Int32))) :=
  if (M (R a0 46) (ztn (40 : Int32))) ≤ x3 then (
    some (.inr (x1, x2))
  ) else (
    zck (zin x3 60) <|
    if x1 ≤ (M (R a0 46) (ztn x3)) then (
      j_X12_apartNow_56 R M a0 x1 x2 x3
    ) else (
      zck (zin x3 60) <|
      j_X12_apartNow_56 R M a0 (M (R a0 46) (ztn x3)) x2 x3
    )
  )
set_option maxRecDepth 4000 in
theorem ok_b_X12_apartNow_28 {G : zG} {K : zK} {R : zR} {M : zM} {L : zL} (hW : zWT R K) {a0 : Nat} {x1 : Int32} {x2 : Int32} {x3 : Int32} (k_a0 : K[a0]? = some (12, 61)) {r : Option Value} {S' : zS} {x : (Int32 × Int32 × Int32) ⊕ ((Int32 × Int32))} (h : b_X12_apartNow_28 R M a0 x1 x2 x3 = some x) (hk : Sum.elim (P_X12_apartNow_28 G K R M L a0 r S') (Q_X12_apartNow_28 G K R M L a0 r S') x) : P_X12_apartNow_28 G K R M L a0 r S' (x1, x2, x3) := by
  show Rn G mt_X12_apartNow 28 [(0, .ref a0), (1, .int x1), (2, .int x2), (3, .int x3)] [] (M, L, R, K) r S'
  unfold b_X12_apartNow_28 at h
  refine rn_iload_n (q := 3) 3 rfl zd_X12_apartNow_1.1.1.2.2 ?_
  refine rn_aload_n (q := 0) 0 rfl zd_X12_apartNow_1.1.2.1.1 ?_
  refine rn_getR zf_X12_104 (Or.inr ⟨_, rfl⟩) k_a0 (zx_12_46 hW k_a0) zd_X12_apartNow_1.1.2.1.2 ?_
  refine rn_bipush (v := 40) zd_X12_apartNow_1.1.2.2.1 rfl ?_
  refine rn_iald (zw_12_46 hW k_a0) (by decide) zd_X12_apartNow_1.1.2.2.2 ?_
  rcases zif_e h with ⟨hc2, h⟩ | ⟨hc2, h⟩
  · refine rn_icmp_ge_t (tgt := 79) hc2 zd_X12_apartNow_1.2.1.1.1 rfl ?_
    cases h
    exact rn_sub (ls' := [(1, .int x1), (2, .int x2)]) [1, 2] rfl hk
  · refine rn_icmp_ge_f (tgt := 79) hc2 zd_X12_apartNow_1.2.1.1.1 rfl ?_
    refine rn_aload_n (q := 0) 0 rfl zd_X12_apartNow_1.2.1.1.2 ?_
    refine rn_getR zf_X12_104 (Or.inr ⟨_, rfl⟩) k_a0 (zx_12_46 hW k_a0) zd_X12_apartNow_1.2.1.2.1 ?_
    refine rn_iload_n (q := 3) 3 rfl zd_X12_apartNow_1.2.1.2.2 ?_
    obtain ⟨hc3, h⟩ := zck_e h
    refine rn_iald (zw_12_46 hW k_a0) hc3 zd_X12_apartNow_1.2.2.1.1 ?_
    refine rn_iload_n (q := 1) 1 rfl zd_X12_apartNow_1.2.2.1.2 ?_
    rcases zif_e h with ⟨hc4, h⟩ | ⟨hc4, h⟩
    · refine rn_icmp_ge_t (tgt := 56) hc4 zd_X12_apartNow_1.2.2.2.1 rfl ?_
      exact rn_sub (ls' := [(0, .ref a0), (1, .int x1), (2, .int x2), (3, .int x3)]) [0, 1, 2, 3] rfl (ok_j_X12_apartNow_56 hW k_a0 h hk)
    · refine rn_icmp_ge_f (tgt := 56) hc4 zd_X12_apartNow_1.2.2.2.1 rfl ?_
      refine rn_aload_n (q := 0) 0 rfl zd_X12_apartNow_1.2.2.2.2 ?_
      refine rn_getR zf_X12_104 (Or.inr ⟨_, rfl⟩) k_a0 (zx_12_46 hW k_a0) zd_X12_apartNow_2.1.1.1.1 ?_
      refine rn_iload_n (q := 3) 3 rfl zd_X12_apartNow_2.1.1.1.2 ?_
      obtain ⟨hc8, h⟩ := zck_e h
      refine rn_iald (zw_12_46 hW k_a0) hc8 zd_X12_apartNow_2.1.1.2.1 ?_
      refine rn_istore_n (q := 1) (ls' := [(1, .int (M (R a0 46) (ztn x3))), (0, .ref a0), (2, .int x2), (3, .int x3)]) (by decide) rfl zd_X12_apartNow_2.1.1.2.2 ?_
      exact rn_sub (ls' := [(0, .ref a0), (1, .int (M (R a0 46) (ztn x3))), (2, .int x2), (3, .int x3)]) [1, 0, 2, 3] rfl (ok_j_X12_apartNow_56 hW k_a0 h hk)
def f_X12_apartNow (R : zR) (M : zM) (a0 : Nat) : Option (Int32) :=
  if (M (R a0 46) (ztn (40 : Int32))) = 0 then (
    some (0 : Int32)
  ) else (
    zbd (zloop zN (fun v => b_X12_apartNow_28 R M a0 v.1 v.2.1 v.2.2) ((M (R a0 46) (ztn (0 : Int32))), (M (R a0 46) (ztn (0 : Int32))), (1 : Int32))) fun e9 =>
    some (e9.2 - e9.1)
  )
set_option maxRecDepth 4000 in
theorem ok_X12_apartNow {G : zG} {K : zK} {R : zR} {M : zM} {L : zL} (hW : zWT R K) {a0 : Nat} (k_a0 : K[a0]? = some (12, 61)) {r' : Int32} (h : f_X12_apartNow R M a0 = some r') : Rm G mt_X12_apartNow [.ref a0] (M, L, R, K) (some (.int r')) (M, L, R, K) := by
  refine rm_rn rfl rfl (Nat.le_of_ble_eq_true rfl) ?_
  show Rn G mt_X12_apartNow 0 [(0, .ref a0)] [] (M, L, R, K) (some (.int r')) (M, L, R, K)
  unfold f_X12_apartNow at h
  refine rn_aload_n (q := 0) 0 rfl zd_X12_apartNow_0.1.1.1.1 ?_
  refine rn_getR zf_X12_104 (Or.inr ⟨_, rfl⟩) k_a0 (zx_12_46 hW k_a0) zd_X12_apartNow_0.1.1.1.2 ?_
  refine rn_bipush (v := 40) zd_X12_apartNow_0.1.1.2.1 rfl ?_
  refine rn_iald (zw_12_46 hW k_a0) (by decide) zd_X12_apartNow_0.1.1.2.2 ?_
  rcases zif_e h with ⟨hc1, h⟩ | ⟨hc1, h⟩
  · refine rn_if_ne_f (tgt := 12) hc1 zd_X12_apartNow_0.1.2.1.1 rfl ?_
    refine rn_iconst (v := 0) zd_X12_apartNow_0.1.2.1.2 rfl ?_
    cases h
    exact rn_iret zd_X12_apartNow_0.1.2.2.1 rfl
  · refine rn_if_ne_t (tgt := 12) hc1 zd_X12_apartNow_0.1.2.1.1 rfl ?_
    refine rn_aload_n (q := 0) 0 rfl zd_X12_apartNow_0.1.2.2.2 ?_
    refine rn_getR zf_X12_104 (Or.inr ⟨_, rfl⟩) k_a0 (zx_12_46 hW k_a0) zd_X12_apartNow_0.2.1.1.1 ?_
    refine rn_iconst (v := 0) zd_X12_apartNow_0.2.1.1.2 rfl ?_
    refine rn_iald (zw_12_46 hW k_a0) (by decide) zd_X12_apartNow_0.2.1.2.1 ?_
    refine rn_istore_n (q := 1) (ls' := [(1, .int (M (R a0 46) (ztn (0 : Int32)))), (0, .ref a0)]) (by decide) rfl zd_X12_apartNow_0.2.1.2.2 ?_
    refine rn_aload_n (q := 0) 1 rfl zd_X12_apartNow_0.2.2.1.1 ?_
    refine rn_getR zf_X12_104 (Or.inr ⟨_, rfl⟩) k_a0 (zx_12_46 hW k_a0) zd_X12_apartNow_0.2.2.1.2 ?_
    refine rn_iconst (v := 0) zd_X12_apartNow_0.2.2.2.1 rfl ?_
    refine rn_iald (zw_12_46 hW k_a0) (by decide) zd_X12_apartNow_0.2.2.2.2 ?_
    refine rn_istore_n (q := 2) (ls' := [(2, .int (M (R a0 46) (ztn (0 : Int32)))), (1, .int (M (R a0 46) (ztn (0 : Int32)))), (0, .ref a0)]) (by decide) rfl zd_X12_apartNow_1.1.1.1.1 ?_
    refine rn_iconst (v := 1) zd_X12_apartNow_1.1.1.1.2 rfl ?_
    refine rn_istore_n (q := 3) (ls' := [(3, .int (1 : Int32)), (2, .int (M (R a0 46) (ztn (0 : Int32)))), (1, .int (M (R a0 46) (ztn (0 : Int32)))), (0, .ref a0)]) (by decide) rfl zd_X12_apartNow_1.1.1.2.1 ?_
    obtain ⟨e9, he9, h⟩ := zbd_e h
    refine rn_sub (ls' := [(0, .ref a0), (1, .int (M (R a0 46) (ztn (0 : Int32)))), (2, .int (M (R a0 46) (ztn (0 : Int32)))), (3, .int (1 : Int32))]) [3, 2, 1, 0] rfl (zloop_ok (P := P_X12_apartNow_28 G K R M L a0 (some (.int r')) (M, L, R, K)) (Q := Q_X12_apartNow_28 G K R M L a0 (some (.int r')) (M, L, R, K)) (fun v x hx hq => ok_b_X12_apartNow_28 hW k_a0 hx hq) _ _ _ he9 ?_)
    show Rn G mt_X12_apartNow 79 [(1, .int e9.1), (2, .int e9.2)] [] (M, L, R, K) (some (.int r')) (M, L, R, K)
    refine rn_iload_n (q := 2) 1 rfl zd_X12_apartNow_3.1.2 ?_
    refine rn_iload_n (q := 1) 0 rfl zd_X12_apartNow_3.2.1 ?_
    refine rn_isub zd_X12_apartNow_3.2.2.1 ?_
    cases h
    exact rn_iret zd_X12_apartNow_3.2.2.2 rfl
def f_X12_apart (R : zR) (M : zM) (a0 : Nat) (x1 : Int32) : Option (Int32 × zM) :=
  zbd (f_X12_in x1 (0 : Int32) (300 : Int32)) fun r1 =>
  if r1 = 0 then (
    some ((-1 : Int32), M)
  ) else (
    zbd (f_X12_copies R M a0) fun M4 =>
    zbd (f_X12_evenings R M4 a0 x1) fun M6 =>
    zbd (f_X12_apartNow R M6 a0) fun r8 =>
    some (r8, M6)
  )
set_option maxRecDepth 4000 in
theorem ok_X12_apart {G : zG} {K : zK} {R : zR} {M : zM} {L : zL} (hW : zWT R K) {a0 : Nat} {x1 : Int32} (k_a0 : K[a0]? = some (12, 61)) {r' : Int32} {M' : zM} (h : f_X12_apart R M a0 x1 = some (r', M')) : Rm G mt_X12_apart [.ref a0, .int x1] (M, L, R, K) (some (.int r')) (M', L, R, K) := by
  refine rm_rn rfl rfl (Nat.le_of_ble_eq_true rfl) ?_
  show Rn G mt_X12_apart 0 [(0, .ref a0), (1, .int x1)] [] (M, L, R, K) (some (.int r')) (M', L, R, K)
  unfold f_X12_apart at h
  refine rn_iload_n (q := 1) 1 rfl zd_X12_apart_0.1.1.1 ?_
  refine rn_iconst (v := 0) zd_X12_apart_0.1.1.2.1 rfl ?_
  refine rn_sipush (v := 300) zd_X12_apart_0.1.1.2.2 rfl ?_
  obtain ⟨r1, h2, h⟩ := zbd_e h
  refine rn_callSi (As := [.int x1, .int (0 : Int32), .int (300 : Int32)]) (rest := []) zl_X12_276 zm_X12_in ⟨by decide, by decide⟩ rfl rfl (Nat.le_of_ble_eq_true rfl) zd_X12_apart_0.1.2.1.1 (ok_X12_in hW h2) ?_
  rcases zif_e h with ⟨hc3, h⟩ | ⟨hc3, h⟩
  · refine rn_if_ne_f (tgt := 13) hc3 zd_X12_apart_0.1.2.1.2 rfl ?_
    refine rn_iconst (v := -1) zd_X12_apart_0.1.2.2.1 rfl ?_
    cases h
    exact rn_iret zd_X12_apart_0.1.2.2.2 rfl
  · refine rn_if_ne_t (tgt := 13) hc3 zd_X12_apart_0.1.2.1.2 rfl ?_
    refine rn_aload_n (q := 0) 0 rfl zd_X12_apart_0.2.1.1.1 ?_
    obtain ⟨M4, h5, h⟩ := zbd_e h
    refine rn_callVv (As := []) (rest := []) zl_X12_328 zm_X12_copies ⟨by decide, by decide⟩ (ci := 12) rfl rfl (by decide) k_a0 rfl rfl (Nat.le_of_ble_eq_true rfl) zd_X12_apart_0.2.1.1.2 (ok_X12_copies hW k_a0 h5) ?_
    refine rn_aload_n (q := 0) 0 rfl zd_X12_apart_0.2.1.2.1 ?_
    refine rn_iload_n (q := 1) 1 rfl zd_X12_apart_0.2.1.2.2 ?_
    obtain ⟨M6, h7, h⟩ := zbd_e h
    refine rn_callVv (As := [.int x1]) (rest := []) zl_X12_331 zm_X12_evenings ⟨by decide, by decide⟩ (ci := 12) rfl rfl (by decide) k_a0 rfl rfl (Nat.le_of_ble_eq_true rfl) zd_X12_apart_0.2.2.1.1 (ok_X12_evenings hW k_a0 h7) ?_
    refine rn_aload_n (q := 0) 0 rfl zd_X12_apart_0.2.2.1.2 ?_
    obtain ⟨r8, h9, h⟩ := zbd_e h
    refine rn_callVi (As := []) (rest := []) zl_X12_347 zm_X12_apartNow ⟨by decide, by decide⟩ (ci := 12) rfl rfl (by decide) k_a0 rfl rfl (Nat.le_of_ble_eq_true rfl) zd_X12_apart_0.2.2.2.1 (ok_X12_apartNow hW k_a0 h9) ?_
    cases h
    exact rn_iret zd_X12_apart_0.2.2.2.2 rfl
abbrev P_X12_evenBy_6 (G : zG) (K : zK) (R : zR) (L : zL) (a0 : Nat) (x1 : Int32) (x2 : Int32) (r : Option Value) (S' : zS) (v : Int32 × zM) : Prop := Rn G mt_X12_evenBy 6 [(0, .ref a0), (1, .int x1), (2, .int x2), (3, .int v.1)] [] (v.2, L, R, K) r S'
abbrev Q_X12_evenBy_6 (G : zG) (K : zK) (R : zR) (L : zL) (a0 : Nat) (x1 : Int32) (x2 : Int32) (r : Option Value) (S' : zS) : (Int32 × zM) ⊕ (zM) → Prop := (Sum.elim (fun e => Rn G mt_X12_evenBy 21 [(3, .int e.1)] [] (e.2, L, R, K) r S') (fun e => Rn G mt_X12_evenBy 34 [] [] (e, L, R, K) r S'))
def b_X12_evenBy_6 (R : zR) (M : zM) (a0 : Nat) (x1 : Int32) (x2 : Int32) (x3 : Int32) : Option ((Int32 × zM) ⊕ ((Int32 × zM) ⊕ (zM))) :=
  if (300 : Int32) < x3 then (
    some (.inr (.inr M))
  ) else (
    zbd (f_X12_apartNow R M a0) fun r4 =>
    if x1 < r4 then (
      zbd (f_X12_evening R M a0 x2) fun M7 =>
      some (.inl ((x3 + 1), M7))
    ) else (
      some (.inr (.inl (x3, M)))
    )
  )
set_option maxRecDepth 4000 in
theorem ok_b_X12_evenBy_6 {G : zG} {K : zK} {R : zR} {M : zM} {L : zL} (hW : zWT R K) {a0 : Nat} {x1 : Int32} {x2 : Int32} {x3 : Int32} (k_a0 : K[a0]? = some (12, 61)) {r : Option Value} {S' : zS} {x : (Int32 × zM) ⊕ ((Int32 × zM) ⊕ (zM))} (h : b_X12_evenBy_6 R M a0 x1 x2 x3 = some x) (hk : Sum.elim (P_X12_evenBy_6 G K R L a0 x1 x2 r S') (Q_X12_evenBy_6 G K R L a0 x1 x2 r S') x) : P_X12_evenBy_6 G K R L a0 x1 x2 r S' (x3, M) := by
  show Rn G mt_X12_evenBy 6 [(0, .ref a0), (1, .int x1), (2, .int x2), (3, .int x3)] [] (M, L, R, K) r S'
  unfold b_X12_evenBy_6 at h
  refine rn_iload_n (q := 3) 3 rfl zd_X12_evenBy_0.1.2.1.1 ?_
  refine rn_sipush (v := 300) zd_X12_evenBy_0.1.2.1.2 rfl ?_
  rcases zif_e h with ⟨hc3, h⟩ | ⟨hc3, h⟩
  · refine rn_icmp_gt_t (tgt := 34) hc3 zd_X12_evenBy_0.1.2.2.1 rfl ?_
    cases h
    exact rn_sub (ls' := []) [] rfl hk
  · refine rn_icmp_gt_f (tgt := 34) hc3 zd_X12_evenBy_0.1.2.2.1 rfl ?_
    refine rn_aload_n (q := 0) 0 rfl zd_X12_evenBy_0.1.2.2.2 ?_
    obtain ⟨r4, h5, h⟩ := zbd_e h
    refine rn_callVi (As := []) (rest := []) zl_X12_347 zm_X12_apartNow ⟨by decide, by decide⟩ (ci := 12) rfl rfl (by decide) k_a0 rfl rfl (Nat.le_of_ble_eq_true rfl) zd_X12_evenBy_0.2.1.1.1 (ok_X12_apartNow hW k_a0 h5) ?_
    refine rn_iload_n (q := 1) 1 rfl zd_X12_evenBy_0.2.1.1.2 ?_
    rcases zif_e h with ⟨hc6, h⟩ | ⟨hc6, h⟩
    · refine rn_icmp_gt_t (tgt := 23) hc6 zd_X12_evenBy_0.2.1.2.1 rfl ?_
      refine rn_aload_n (q := 0) 0 rfl zd_X12_evenBy_0.2.2.1.2 ?_
      refine rn_iload_n (q := 2) 2 rfl zd_X12_evenBy_0.2.2.2.1 ?_
      obtain ⟨M7, h8, h⟩ := zbd_e h
      refine rn_callVv (As := [.int x2]) (rest := []) zl_X12_322 zm_X12_evening ⟨by decide, by decide⟩ (ci := 12) rfl rfl (by decide) k_a0 rfl rfl (Nat.le_of_ble_eq_true rfl) zd_X12_evenBy_0.2.2.2.2 (ok_X12_evening hW k_a0 h8) ?_
      refine rn_iinc (v := (x3 + 1)) (ls' := [(3, .int (x3 + 1)), (0, .ref a0), (1, .int x1), (2, .int x2)]) 3 rfl rfl (by decide) rfl zd_X12_evenBy_1.1.1 ?_
      refine rn_goto (tgt := 6) zd_X12_evenBy_1.1.2 rfl ?_
      cases h
      exact rn_sub (ls' := [(0, .ref a0), (1, .int x1), (2, .int x2), (3, .int (x3 + 1))]) [1, 2, 3, 0] rfl hk
    · refine rn_icmp_gt_f (tgt := 23) hc6 zd_X12_evenBy_0.2.1.2.1 rfl ?_
      cases h
      exact rn_sub (ls' := [(3, .int x3)]) [3] rfl hk
def f_X12_evenBy (R : zR) (M : zM) (a0 : Nat) (x1 : Int32) (x2 : Int32) : Option (Int32 × zM) :=
  zbd (f_X12_copies R M a0) fun M1 =>
  zbd (zloop zN (fun v => b_X12_evenBy_6 R v.2 a0 x1 x2 v.1) ((0 : Int32), M1)) fun e9 =>
  Sum.elim (fun e10 =>
    some (e10.1, e10.2)
  ) (fun e11 =>
    some ((-2 : Int32), e11)
  ) e9
set_option maxRecDepth 4000 in
theorem ok_X12_evenBy {G : zG} {K : zK} {R : zR} {M : zM} {L : zL} (hW : zWT R K) {a0 : Nat} {x1 : Int32} {x2 : Int32} (k_a0 : K[a0]? = some (12, 61)) {r' : Int32} {M' : zM} (h : f_X12_evenBy R M a0 x1 x2 = some (r', M')) : Rm G mt_X12_evenBy [.ref a0, .int x1, .int x2] (M, L, R, K) (some (.int r')) (M', L, R, K) := by
  refine rm_rn rfl rfl (Nat.le_of_ble_eq_true rfl) ?_
  show Rn G mt_X12_evenBy 0 [(0, .ref a0), (1, .int x1), (2, .int x2)] [] (M, L, R, K) (some (.int r')) (M', L, R, K)
  unfold f_X12_evenBy at h
  refine rn_aload_n (q := 0) 0 rfl zd_X12_evenBy_0.1.1.1.1 ?_
  obtain ⟨M1, h2, h⟩ := zbd_e h
  refine rn_callVv (As := []) (rest := []) zl_X12_328 zm_X12_copies ⟨by decide, by decide⟩ (ci := 12) rfl rfl (by decide) k_a0 rfl rfl (Nat.le_of_ble_eq_true rfl) zd_X12_evenBy_0.1.1.1.2 (ok_X12_copies hW k_a0 h2) ?_
  refine rn_iconst (v := 0) zd_X12_evenBy_0.1.1.2.1 rfl ?_
  refine rn_istore_n (q := 3) (ls' := [(3, .int (0 : Int32)), (0, .ref a0), (1, .int x1), (2, .int x2)]) (by decide) rfl zd_X12_evenBy_0.1.1.2.2 ?_
  obtain ⟨e9, he9, h⟩ := zbd_e h
  refine rn_sub (ls' := [(0, .ref a0), (1, .int x1), (2, .int x2), (3, .int (0 : Int32))]) [1, 2, 3, 0] rfl (zloop_ok (P := P_X12_evenBy_6 G K R L a0 x1 x2 (some (.int r')) (M', L, R, K)) (Q := Q_X12_evenBy_6 G K R L a0 x1 x2 (some (.int r')) (M', L, R, K)) (fun v x hx hq => ok_b_X12_evenBy_6 hW k_a0 hx hq) _ _ _ he9 ?_)
  rcases e9 with e10 | e11
  · rw [Sum.elim_inl] at h
    show Rn G mt_X12_evenBy 21 [(3, .int e10.1)] [] (e10.2, L, R, K) (some (.int r')) (M', L, R, K)
    refine rn_iload_n (q := 3) 0 rfl zd_X12_evenBy_0.2.1.2.2 ?_
    cases h
    exact rn_iret zd_X12_evenBy_0.2.2.1.1 rfl
  · rw [Sum.elim_inr] at h
    show Rn G mt_X12_evenBy 34 [] [] (e11, L, R, K) (some (.int r')) (M', L, R, K)
    refine rn_bipush (v := -2) zd_X12_evenBy_1.2.1 rfl ?_
    cases h
    exact rn_iret zd_X12_evenBy_1.2.2 rfl
def f_X12_even (R : zR) (M : zM) (a0 : Nat) (x1 : Int32) (x2 : Int32) : Option (Int32 × zM) :=
  if x1 < 0 then (
    some ((-1 : Int32), M)
  ) else (
    zbd (f_X12_in x2 (0 : Int32) (2 : Int32)) fun r2 =>
    if r2 = 0 then (
      some ((-1 : Int32), M)
    ) else (
      zbd2 (f_X12_evenBy R M a0 x1 x2) fun r5 M6 =>
      some (r5, M6)
    )
  )
set_option maxRecDepth 4000 in
theorem ok_X12_even {G : zG} {K : zK} {R : zR} {M : zM} {L : zL} (hW : zWT R K) {a0 : Nat} {x1 : Int32} {x2 : Int32} (k_a0 : K[a0]? = some (12, 61)) {r' : Int32} {M' : zM} (h : f_X12_even R M a0 x1 x2 = some (r', M')) : Rm G mt_X12_even [.ref a0, .int x1, .int x2] (M, L, R, K) (some (.int r')) (M', L, R, K) := by
  refine rm_rn rfl rfl (Nat.le_of_ble_eq_true rfl) ?_
  show Rn G mt_X12_even 0 [(0, .ref a0), (1, .int x1), (2, .int x2)] [] (M, L, R, K) (some (.int r')) (M', L, R, K)
  unfold f_X12_even at h
  refine rn_iload_n (q := 1) 1 rfl zd_X12_even_0.1.1.1 ?_
  rcases zif_e h with ⟨hc1, h⟩ | ⟨hc1, h⟩
  · refine rn_if_lt_t (tgt := 13) hc1 zd_X12_even_0.1.1.2.1 rfl ?_
    refine rn_iconst (v := -1) zd_X12_even_0.2.1.1 rfl ?_
    refine rn_goto (tgt := 23) zd_X12_even_0.2.1.2.1 rfl ?_
    cases h
    exact rn_iret zd_X12_even_0.2.2.2.2 rfl
  · refine rn_if_lt_f (tgt := 13) hc1 zd_X12_even_0.1.1.2.1 rfl ?_
    refine rn_iload_n (q := 2) 2 rfl zd_X12_even_0.1.1.2.2 ?_
    refine rn_iconst (v := 0) zd_X12_even_0.1.2.1.1 rfl ?_
    refine rn_iconst (v := 2) zd_X12_even_0.1.2.1.2 rfl ?_
    obtain ⟨r2, h3, h⟩ := zbd_e h
    refine rn_callSi (As := [.int x2, .int (0 : Int32), .int (2 : Int32)]) (rest := []) zl_X12_276 zm_X12_in ⟨by decide, by decide⟩ rfl rfl (Nat.le_of_ble_eq_true rfl) zd_X12_even_0.1.2.2.1 (ok_X12_in hW h3) ?_
    rcases zif_e h with ⟨hc4, h⟩ | ⟨hc4, h⟩
    · refine rn_if_ne_f (tgt := 17) hc4 zd_X12_even_0.1.2.2.2 rfl ?_
      refine rn_iconst (v := -1) zd_X12_even_0.2.1.1 rfl ?_
      refine rn_goto (tgt := 23) zd_X12_even_0.2.1.2.1 rfl ?_
      cases h
      exact rn_iret zd_X12_even_0.2.2.2.2 rfl
    · refine rn_if_ne_t (tgt := 17) hc4 zd_X12_even_0.1.2.2.2 rfl ?_
      refine rn_aload_n (q := 0) 0 rfl zd_X12_even_0.2.1.2.2 ?_
      refine rn_iload_n (q := 1) 1 rfl zd_X12_even_0.2.2.1.1 ?_
      refine rn_iload_n (q := 2) 2 rfl zd_X12_even_0.2.2.1.2 ?_
      obtain ⟨r5, M6, h7, h⟩ := zbd2_e h
      refine rn_callVi (As := [.int x1, .int x2]) (rest := []) zl_X12_351 zm_X12_evenBy ⟨by decide, by decide⟩ (ci := 12) rfl rfl (by decide) k_a0 rfl rfl (Nat.le_of_ble_eq_true rfl) zd_X12_even_0.2.2.2.1 (ok_X12_evenBy hW k_a0 h7) ?_
      cases h
      exact rn_iret zd_X12_even_0.2.2.2.2 rfl
abbrev P_X12_soonest_14 (G : zG) (K : zK) (R : zR) (L : zL) (a0 : Nat) (x1 : Int32) (r : Option Value) (S' : zS) (v : Int32 × Int32 × Int32 × zM) : Prop := Rn G mt_X12_soonest 14 [(0, .ref a0), (1, .int x1), (2, .int v.1), (3, .int v.2.1), (4, .int v.2.2.1)] [] (v.2.2.2, L, R, K) r S'
abbrev Q_X12_soonest_14 (G : zG) (K : zK) (R : zR) (L : zL) (a0 : Nat) (x1 : Int32) (r : Option Value) (S' : zS) : (Int32 × zM) → Prop := (fun e => Rn G mt_X12_soonest 59 [(2, .int e.1)] [] (e.2, L, R, K) r S')
def j_X12_soonest_47 (R : zR) (M : zM) (a0 : Nat) (x1 : Int32) (x4 : Int32) (x5 : Int32) : Option ((Int32 × Int32 × Int32 × zM) ⊕ ((Int32 × zM))) :=
  some (.inl (x4, x5, (x4 + 1), M))
set_option maxRecDepth 4000 in
theorem ok_j_X12_soonest_47 {G : zG} {K : zK} {R : zR} {M : zM} {L : zL} (hW : zWT R K) {a0 : Nat} {x1 : Int32} {x4 : Int32} {x5 : Int32} (k_a0 : K[a0]? = some (12, 61)) {r : Option Value} {S' : zS} {x : (Int32 × Int32 × Int32 × zM) ⊕ ((Int32 × zM))} (h : j_X12_soonest_47 R M a0 x1 x4 x5 = some x) (hk : Sum.elim (P_X12_soonest_14 G K R L a0 x1 r S') (Q_X12_soonest_14 G K R L a0 x1 r S') x) : Rn G mt_X12_soonest 47 [(0, .ref a0), (1, .int x1), (4, .int x4), (5, .int x5)] [] (M, L, R, K) r S' := by
  unfold j_X12_soonest_47 at h
  refine rn_iload 2 rfl zd_X12_soonest_1.2.1.2.1 ?_
  refine rn_istore_n (q := 2) (ls' := [(2, .int x4), (0, .ref a0), (1, .int x1), (4, .int x4), (5, .int x5)]) (by decide) rfl zd_X12_soonest_1.2.1.2.2 ?_
  refine rn_iload 4 rfl zd_X12_soonest_1.2.2.1.1 ?_
  refine rn_istore_n (q := 3) (ls' := [(3, .int x5), (2, .int x4), (0, .ref a0), (1, .int x1), (4, .int x4), (5, .int x5)]) (by decide) rfl zd_X12_soonest_1.2.2.1.2 ?_
  refine rn_iinc (v := (x4 + 1)) (ls' := [(4, .int (x4 + 1)), (3, .int x5), (2, .int x4), (0, .ref a0), (1, .int x1), (5, .int x5)]) 4 rfl rfl (by decide) rfl zd_X12_soonest_1.2.2.2.1 ?_
  refine rn_goto (tgt := 14) zd_X12_soonest_1.2.2.2.2 rfl ?_
  cases h
  exact rn_sub (ls' := [(0, .ref a0), (1, .int x1), (2, .int x4), (3, .int x5), (4, .int (x4 + 1))]) [3, 4, 2, 1, 0] rfl hk
def b_X12_soonest_14 (R : zR) (M : zM) (a0 : Nat) (x1 : Int32) (x2 : Int32) (x3 : Int32) (x4 : Int32) : Option ((Int32 × Int32 × Int32 × zM) ⊕ ((Int32 × zM))) :=
  if (3 : Int32) ≤ x4 then (
    some (.inr (x2, M))
  ) else (
    zbd2 (f_X12_evenBy R M a0 x1 x4) fun r3 M4 =>
    if r3 < 0 then (
      some (.inl (x2, x3, (x4 + 1), M4))
    ) else (
      if x2 < 0 then (
        j_X12_soonest_47 R M4 a0 x1 x4 r3
      ) else (
        if r3 < x3 then (
          j_X12_soonest_47 R M4 a0 x1 x4 r3
        ) else (
          some (.inl (x2, x3, (x4 + 1), M4))
        )
      )
    )
  )
set_option maxRecDepth 4000 in
theorem ok_b_X12_soonest_14 {G : zG} {K : zK} {R : zR} {M : zM} {L : zL} (hW : zWT R K) {a0 : Nat} {x1 : Int32} {x2 : Int32} {x3 : Int32} {x4 : Int32} (k_a0 : K[a0]? = some (12, 61)) {r : Option Value} {S' : zS} {x : (Int32 × Int32 × Int32 × zM) ⊕ ((Int32 × zM))} (h : b_X12_soonest_14 R M a0 x1 x2 x3 x4 = some x) (hk : Sum.elim (P_X12_soonest_14 G K R L a0 x1 r S') (Q_X12_soonest_14 G K R L a0 x1 r S') x) : P_X12_soonest_14 G K R L a0 x1 r S' (x2, x3, x4, M) := by
  show Rn G mt_X12_soonest 14 [(0, .ref a0), (1, .int x1), (2, .int x2), (3, .int x3), (4, .int x4)] [] (M, L, R, K) r S'
  unfold b_X12_soonest_14 at h
  refine rn_iload 4 rfl zd_X12_soonest_0.2.1.2.1 ?_
  refine rn_iconst (v := 3) zd_X12_soonest_0.2.1.2.2 rfl ?_
  rcases zif_e h with ⟨hc2, h⟩ | ⟨hc2, h⟩
  · refine rn_icmp_ge_t (tgt := 59) hc2 zd_X12_soonest_0.2.2.1.1 rfl ?_
    cases h
    exact rn_sub (ls' := [(2, .int x2)]) [2] rfl hk
  · refine rn_icmp_ge_f (tgt := 59) hc2 zd_X12_soonest_0.2.2.1.1 rfl ?_
    refine rn_aload_n (q := 0) 0 rfl zd_X12_soonest_0.2.2.1.2 ?_
    refine rn_iload_n (q := 1) 1 rfl zd_X12_soonest_0.2.2.2.1 ?_
    refine rn_iload 4 rfl zd_X12_soonest_0.2.2.2.2 ?_
    obtain ⟨r3, M4, h5, h⟩ := zbd2_e h
    refine rn_callVi (As := [.int x1, .int x4]) (rest := []) zl_X12_351 zm_X12_evenBy ⟨by decide, by decide⟩ (ci := 12) rfl rfl (by decide) k_a0 rfl rfl (Nat.le_of_ble_eq_true rfl) zd_X12_soonest_1.1.1.1.1 (ok_X12_evenBy hW k_a0 h5) ?_
    refine rn_istore (ls' := [(5, .int r3), (0, .ref a0), (1, .int x1), (2, .int x2), (3, .int x3), (4, .int x4)]) (by decide) rfl zd_X12_soonest_1.1.1.1.2 ?_
    refine rn_iload 0 rfl zd_X12_soonest_1.1.1.2.1 ?_
    rcases zif_e h with ⟨hc6, h⟩ | ⟨hc6, h⟩
    · refine rn_if_lt_t (tgt := 53) hc6 zd_X12_soonest_1.1.1.2.2 rfl ?_
      refine rn_iinc (v := (x4 + 1)) (ls' := [(4, .int (x4 + 1)), (5, .int r3), (0, .ref a0), (1, .int x1), (2, .int x2), (3, .int x3)]) 5 rfl rfl (by decide) rfl zd_X12_soonest_1.2.2.2.1 ?_
      refine rn_goto (tgt := 14) zd_X12_soonest_1.2.2.2.2 rfl ?_
      cases h
      exact rn_sub (ls' := [(0, .ref a0), (1, .int x1), (2, .int x2), (3, .int x3), (4, .int (x4 + 1))]) [2, 3, 4, 5, 0] rfl hk
    · refine rn_if_lt_f (tgt := 53) hc6 zd_X12_soonest_1.1.1.2.2 rfl ?_
      refine rn_iload_n (q := 2) 3 rfl zd_X12_soonest_1.1.2.1.1 ?_
      rcases zif_e h with ⟨hc7, h⟩ | ⟨hc7, h⟩
      · refine rn_if_lt_t (tgt := 47) hc7 zd_X12_soonest_1.1.2.1.2 rfl ?_
        exact rn_sub (ls' := [(0, .ref a0), (1, .int x1), (4, .int x4), (5, .int r3)]) [1, 2, 5, 0] rfl (ok_j_X12_soonest_47 hW k_a0 h hk)
      · refine rn_if_lt_f (tgt := 47) hc7 zd_X12_soonest_1.1.2.1.2 rfl ?_
        refine rn_iload 0 rfl zd_X12_soonest_1.1.2.2.1 ?_
        refine rn_iload_n (q := 3) 4 rfl zd_X12_soonest_1.1.2.2.2 ?_
        rcases zif_e h with ⟨hc8, h⟩ | ⟨hc8, h⟩
        · refine rn_icmp_lt_t (tgt := 47) hc8 zd_X12_soonest_1.2.1.1.1 rfl ?_
          exact rn_sub (ls' := [(0, .ref a0), (1, .int x1), (4, .int x4), (5, .int r3)]) [1, 2, 5, 0] rfl (ok_j_X12_soonest_47 hW k_a0 h hk)
        · refine rn_icmp_lt_f (tgt := 47) hc8 zd_X12_soonest_1.2.1.1.1 rfl ?_
          refine rn_goto (tgt := 53) zd_X12_soonest_1.2.1.1.2 rfl ?_
          refine rn_iinc (v := (x4 + 1)) (ls' := [(4, .int (x4 + 1)), (5, .int r3), (0, .ref a0), (1, .int x1), (2, .int x2), (3, .int x3)]) 5 rfl rfl (by decide) rfl zd_X12_soonest_1.2.2.2.1 ?_
          refine rn_goto (tgt := 14) zd_X12_soonest_1.2.2.2.2 rfl ?_
          cases h
          exact rn_sub (ls' := [(0, .ref a0), (1, .int x1), (2, .int x2), (3, .int x3), (4, .int (x4 + 1))]) [2, 3, 4, 5, 0] rfl hk
def f_X12_soonest (R : zR) (M : zM) (a0 : Nat) (x1 : Int32) : Option (Int32 × zM) :=
  if 0 ≤ x1 then (
    zbd (zloop zN (fun v => b_X12_soonest_14 R v.2.2.2 a0 x1 v.1 v.2.1 v.2.2.1) ((-2 : Int32), (0 : Int32), (0 : Int32), M)) fun e9 =>
    some (e9.1, e9.2)
  ) else (
    some ((-1 : Int32), M)
  )
set_option maxRecDepth 4000 in
theorem ok_X12_soonest {G : zG} {K : zK} {R : zR} {M : zM} {L : zL} (hW : zWT R K) {a0 : Nat} {x1 : Int32} (k_a0 : K[a0]? = some (12, 61)) {r' : Int32} {M' : zM} (h : f_X12_soonest R M a0 x1 = some (r', M')) : Rm G mt_X12_soonest [.ref a0, .int x1] (M, L, R, K) (some (.int r')) (M', L, R, K) := by
  refine rm_rn rfl rfl (Nat.le_of_ble_eq_true rfl) ?_
  show Rn G mt_X12_soonest 0 [(0, .ref a0), (1, .int x1)] [] (M, L, R, K) (some (.int r')) (M', L, R, K)
  unfold f_X12_soonest at h
  refine rn_iload_n (q := 1) 1 rfl zd_X12_soonest_0.1.1.1.1 ?_
  rcases zif_e h with ⟨hc1, h⟩ | ⟨hc1, h⟩
  · refine rn_if_ge_t (tgt := 6) hc1 zd_X12_soonest_0.1.1.1.2 rfl ?_
    refine rn_bipush (v := -2) zd_X12_soonest_0.1.2.1.1 rfl ?_
    refine rn_istore_n (q := 2) (ls' := [(2, .int (-2 : Int32)), (0, .ref a0), (1, .int x1)]) (by decide) rfl zd_X12_soonest_0.1.2.1.2 ?_
    refine rn_iconst (v := 0) zd_X12_soonest_0.1.2.2.1 rfl ?_
    refine rn_istore_n (q := 3) (ls' := [(3, .int (0 : Int32)), (2, .int (-2 : Int32)), (0, .ref a0), (1, .int x1)]) (by decide) rfl zd_X12_soonest_0.1.2.2.2 ?_
    refine rn_iconst (v := 0) zd_X12_soonest_0.2.1.1.1 rfl ?_
    refine rn_istore (ls' := [(4, .int (0 : Int32)), (3, .int (0 : Int32)), (2, .int (-2 : Int32)), (0, .ref a0), (1, .int x1)]) (by decide) rfl zd_X12_soonest_0.2.1.1.2 ?_
    obtain ⟨e9, he9, h⟩ := zbd_e h
    refine rn_sub (ls' := [(0, .ref a0), (1, .int x1), (2, .int (-2 : Int32)), (3, .int (0 : Int32)), (4, .int (0 : Int32))]) [3, 4, 2, 1, 0] rfl (zloop_ok (P := P_X12_soonest_14 G K R L a0 x1 (some (.int r')) (M', L, R, K)) (Q := Q_X12_soonest_14 G K R L a0 x1 (some (.int r')) (M', L, R, K)) (fun v x hx hq => ok_b_X12_soonest_14 hW k_a0 hx hq) _ _ _ he9 ?_)
    show Rn G mt_X12_soonest 59 [(2, .int e9.1)] [] (e9.2, L, R, K) (some (.int r')) (M', L, R, K)
    refine rn_iload_n (q := 2) 0 rfl zd_X12_soonest_2.1 ?_
    cases h
    exact rn_iret zd_X12_soonest_2.2 rfl
  · refine rn_if_ge_f (tgt := 6) hc1 zd_X12_soonest_0.1.1.1.2 rfl ?_
    refine rn_iconst (v := -1) zd_X12_soonest_0.1.1.2.1 rfl ?_
    cases h
    exact rn_iret zd_X12_soonest_0.1.1.2.2 rfl
abbrev P_X12_start_27 (G : zG) (K : zK) (R : zR) (L : zL) (a0 : Nat) (x1 : Int32) (x2 : Int32) (r : Option Value) (S' : zS) (v : Int32 × Int32 × Int32 × zM) : Prop := Rn G mt_X12_start 27 [(0, .ref a0), (1, .int x1), (2, .int x2), (3, .int v.1), (4, .int v.2.1), (5, .int v.2.2.1)] [] (v.2.2.2, L, R, K) r S'
abbrev Q_X12_start_27 (G : zG) (K : zK) (R : zR) (L : zL) (a0 : Nat) (x1 : Int32) (x2 : Int32) (r : Option Value) (S' : zS) : (Int32 × Int32 × zM) → Prop := (fun e => Rn G mt_X12_start 85 [(2, .int x2), (3, .int e.1), (4, .int e.2.1)] [] (e.2.2, L, R, K) r S')
def j_X12_start_68 (R : zR) (M : zM) (a0 : Nat) (x1 : Int32) (x2 : Int32) (x5 : Int32) : Option ((Int32 × Int32 × Int32 × zM) ⊕ ((Int32 × Int32 × zM))) :=
  zck (zin x1 60) <|
  some (.inl (x5, (M (R a0 46) (ztn x1)), (x5 + 1), M))
set_option maxRecDepth 4000 in
theorem ok_j_X12_start_68 {G : zG} {K : zK} {R : zR} {M : zM} {L : zL} (hW : zWT R K) {a0 : Nat} {x1 : Int32} {x2 : Int32} {x5 : Int32} (k_a0 : K[a0]? = some (12, 61)) {r : Option Value} {S' : zS} {x : (Int32 × Int32 × Int32 × zM) ⊕ ((Int32 × Int32 × zM))} (h : j_X12_start_68 R M a0 x1 x2 x5 = some x) (hk : Sum.elim (P_X12_start_27 G K R L a0 x1 x2 r S') (Q_X12_start_27 G K R L a0 x1 x2 r S') x) : Rn G mt_X12_start 68 [(0, .ref a0), (1, .int x1), (2, .int x2), (5, .int x5)] [] (M, L, R, K) r S' := by
  unfold j_X12_start_68 at h
  refine rn_iload 3 rfl zd_X12_start_2.1.2.2.1 ?_
  refine rn_istore_n (q := 3) (ls' := [(3, .int x5), (0, .ref a0), (1, .int x1), (2, .int x2), (5, .int x5)]) (by decide) rfl zd_X12_start_2.1.2.2.2 ?_
  refine rn_aload_n (q := 0) 1 rfl zd_X12_start_2.2.1.1.1 ?_
  refine rn_getR zf_X12_104 (Or.inr ⟨_, rfl⟩) k_a0 (zx_12_46 hW k_a0) zd_X12_start_2.2.1.1.2 ?_
  refine rn_iload_n (q := 1) 2 rfl zd_X12_start_2.2.1.2.1 ?_
  obtain ⟨hc13, h⟩ := zck_e h
  refine rn_iald (zw_12_46 hW k_a0) hc13 zd_X12_start_2.2.1.2.2 ?_
  refine rn_istore (ls' := [(4, .int (M (R a0 46) (ztn x1))), (3, .int x5), (0, .ref a0), (1, .int x1), (2, .int x2), (5, .int x5)]) (by decide) rfl zd_X12_start_2.2.2.1.1 ?_
  refine rn_iinc (v := (x5 + 1)) (ls' := [(5, .int (x5 + 1)), (4, .int (M (R a0 46) (ztn x1))), (3, .int x5), (0, .ref a0), (1, .int x1), (2, .int x2)]) 5 rfl rfl (by decide) rfl zd_X12_start_2.2.2.1.2 ?_
  refine rn_goto (tgt := 27) zd_X12_start_2.2.2.2.1 rfl ?_
  cases h
  exact rn_sub (ls' := [(0, .ref a0), (1, .int x1), (2, .int x2), (3, .int x5), (4, .int (M (R a0 46) (ztn x1))), (5, .int (x5 + 1))]) [3, 4, 5, 2, 1, 0] rfl hk
def b_X12_start_27 (R : zR) (M : zM) (a0 : Nat) (x1 : Int32) (x2 : Int32) (x3 : Int32) (x4 : Int32) (x5 : Int32) : Option ((Int32 × Int32 × Int32 × zM) ⊕ ((Int32 × Int32 × zM))) :=
  if (M (R a0 45) (ztn (40 : Int32))) ≤ x5 then (
    some (.inr (x3, x4, M))
  ) else (
    zbd (f_X12_copies R M a0) fun M8 =>
    zbd (f_X12_payAll R M8 a0 (1 : Int32) x5) fun M10 =>
    if x3 < 0 then (
      j_X12_start_68 R M10 a0 x1 x2 x5
    ) else (
      zck (zin x1 60) <|
      if x4 < (M10 (R a0 46) (ztn x1)) then (
        j_X12_start_68 R M10 a0 x1 x2 x5
      ) else (
        some (.inl (x3, x4, (x5 + 1), M10))
      )
    )
  )
set_option maxRecDepth 4000 in
theorem ok_b_X12_start_27 {G : zG} {K : zK} {R : zR} {M : zM} {L : zL} (hW : zWT R K) {a0 : Nat} {x1 : Int32} {x2 : Int32} {x3 : Int32} {x4 : Int32} {x5 : Int32} (k_a0 : K[a0]? = some (12, 61)) {r : Option Value} {S' : zS} {x : (Int32 × Int32 × Int32 × zM) ⊕ ((Int32 × Int32 × zM))} (h : b_X12_start_27 R M a0 x1 x2 x3 x4 x5 = some x) (hk : Sum.elim (P_X12_start_27 G K R L a0 x1 x2 r S') (Q_X12_start_27 G K R L a0 x1 x2 r S') x) : P_X12_start_27 G K R L a0 x1 x2 r S' (x3, x4, x5, M) := by
  show Rn G mt_X12_start 27 [(0, .ref a0), (1, .int x1), (2, .int x2), (3, .int x3), (4, .int x4), (5, .int x5)] [] (M, L, R, K) r S'
  unfold b_X12_start_27 at h
  refine rn_iload 5 rfl zd_X12_start_1.1.1.1.2 ?_
  refine rn_aload_n (q := 0) 0 rfl zd_X12_start_1.1.1.2.1 ?_
  refine rn_getR zf_X12_101 (Or.inr ⟨_, rfl⟩) k_a0 (zx_12_45 hW k_a0) zd_X12_start_1.1.1.2.2 ?_
  refine rn_bipush (v := 40) zd_X12_start_1.1.2.1.1 rfl ?_
  refine rn_iald (zw_12_45 hW k_a0) (by decide) zd_X12_start_1.1.2.1.2 ?_
  rcases zif_e h with ⟨hc7, h⟩ | ⟨hc7, h⟩
  · refine rn_icmp_ge_t (tgt := 85) hc7 zd_X12_start_1.1.2.2.1 rfl ?_
    cases h
    exact rn_sub (ls' := [(2, .int x2), (3, .int x3), (4, .int x4)]) [2, 3, 4] rfl hk
  · refine rn_icmp_ge_f (tgt := 85) hc7 zd_X12_start_1.1.2.2.1 rfl ?_
    refine rn_aload_n (q := 0) 0 rfl zd_X12_start_1.1.2.2.2 ?_
    obtain ⟨M8, h9, h⟩ := zbd_e h
    refine rn_callVv (As := []) (rest := []) zl_X12_328 zm_X12_copies ⟨by decide, by decide⟩ (ci := 12) rfl rfl (by decide) k_a0 rfl rfl (Nat.le_of_ble_eq_true rfl) zd_X12_start_1.2.1.1.1 (ok_X12_copies hW k_a0 h9) ?_
    refine rn_aload_n (q := 0) 0 rfl zd_X12_start_1.2.1.1.2 ?_
    refine rn_iconst (v := 1) zd_X12_start_1.2.1.2.1 rfl ?_
    refine rn_iload 5 rfl zd_X12_start_1.2.1.2.2 ?_
    obtain ⟨M10, h11, h⟩ := zbd_e h
    refine rn_callVv (As := [.int (1 : Int32), .int x5]) (rest := []) zl_X12_315 zm_X12_payAll ⟨by decide, by decide⟩ (ci := 12) rfl rfl (by decide) k_a0 rfl rfl (Nat.le_of_ble_eq_true rfl) zd_X12_start_1.2.2.1.1 (ok_X12_payAll hW k_a0 h11) ?_
    refine rn_iload_n (q := 3) 3 rfl zd_X12_start_1.2.2.1.2 ?_
    rcases zif_e h with ⟨hc12, h⟩ | ⟨hc12, h⟩
    · refine rn_if_lt_t (tgt := 68) hc12 zd_X12_start_1.2.2.2.1 rfl ?_
      exact rn_sub (ls' := [(0, .ref a0), (1, .int x1), (2, .int x2), (5, .int x5)]) [0, 1, 2, 5] rfl (ok_j_X12_start_68 hW k_a0 h hk)
    · refine rn_if_lt_f (tgt := 68) hc12 zd_X12_start_1.2.2.2.1 rfl ?_
      refine rn_aload_n (q := 0) 0 rfl zd_X12_start_1.2.2.2.2 ?_
      refine rn_getR zf_X12_104 (Or.inr ⟨_, rfl⟩) k_a0 (zx_12_46 hW k_a0) zd_X12_start_2.1.1.1.1 ?_
      refine rn_iload_n (q := 1) 1 rfl zd_X12_start_2.1.1.1.2 ?_
      obtain ⟨hc14, h⟩ := zck_e h
      refine rn_iald (zw_12_46 hW k_a0) hc14 zd_X12_start_2.1.1.2.1 ?_
      refine rn_iload 4 rfl zd_X12_start_2.1.1.2.2 ?_
      rcases zif_e h with ⟨hc15, h⟩ | ⟨hc15, h⟩
      · refine rn_icmp_gt_t (tgt := 68) hc15 zd_X12_start_2.1.2.1.1 rfl ?_
        exact rn_sub (ls' := [(0, .ref a0), (1, .int x1), (2, .int x2), (5, .int x5)]) [0, 1, 2, 5] rfl (ok_j_X12_start_68 hW k_a0 h hk)
      · refine rn_icmp_gt_f (tgt := 68) hc15 zd_X12_start_2.1.2.1.1 rfl ?_
        refine rn_goto (tgt := 79) zd_X12_start_2.1.2.1.2 rfl ?_
        refine rn_iinc (v := (x5 + 1)) (ls' := [(5, .int (x5 + 1)), (0, .ref a0), (1, .int x1), (2, .int x2), (3, .int x3), (4, .int x4)]) 5 rfl rfl (by decide) rfl zd_X12_start_2.2.2.1.2 ?_
        refine rn_goto (tgt := 27) zd_X12_start_2.2.2.2.1 rfl ?_
        cases h
        exact rn_sub (ls' := [(0, .ref a0), (1, .int x1), (2, .int x2), (3, .int x3), (4, .int x4), (5, .int (x5 + 1))]) [1, 2, 3, 4, 5, 0] rfl hk
def f_X12_start (R : zR) (M : zM) (a0 : Nat) (x1 : Int32) (x2 : Int32) : Option (Int32 × zM) :=
  zbd (f_X12_isHouse R M a0 x1) fun r1 =>
  if r1 = 0 then (
    some ((-1 : Int32), M)
  ) else (
    zbd (f_X12_in x2 (0 : Int32) (1 : Int32)) fun r4 =>
    if r4 = 0 then (
      some ((-1 : Int32), M)
    ) else (
      zbd (zloop zN (fun v => b_X12_start_27 R v.2.2.2 a0 x1 x2 v.1 v.2.1 v.2.2.1) ((-1 : Int32), (0 : Int32), (0 : Int32), M)) fun e16 =>
      if x2 = 0 then (
        some (e16.1, e16.2.2)
      ) else (
        some (e16.2.1, e16.2.2)
      )
    )
  )
set_option maxRecDepth 4000 in
theorem ok_X12_start {G : zG} {K : zK} {R : zR} {M : zM} {L : zL} (hW : zWT R K) {a0 : Nat} {x1 : Int32} {x2 : Int32} (k_a0 : K[a0]? = some (12, 61)) {r' : Int32} {M' : zM} (h : f_X12_start R M a0 x1 x2 = some (r', M')) : Rm G mt_X12_start [.ref a0, .int x1, .int x2] (M, L, R, K) (some (.int r')) (M', L, R, K) := by
  refine rm_rn rfl rfl (Nat.le_of_ble_eq_true rfl) ?_
  show Rn G mt_X12_start 0 [(0, .ref a0), (1, .int x1), (2, .int x2)] [] (M, L, R, K) (some (.int r')) (M', L, R, K)
  unfold f_X12_start at h
  refine rn_aload_n (q := 0) 0 rfl zd_X12_start_0.1.1.1.1 ?_
  refine rn_iload_n (q := 1) 1 rfl zd_X12_start_0.1.1.1.2 ?_
  obtain ⟨r1, h2, h⟩ := zbd_e h
  refine rn_callVi (As := [.int x1]) (rest := []) zl_X12_325 zm_X12_isHouse ⟨by decide, by decide⟩ (ci := 12) rfl rfl (by decide) k_a0 rfl rfl (Nat.le_of_ble_eq_true rfl) zd_X12_start_0.1.1.2.1 (ok_X12_isHouse hW k_a0 h2) ?_
  rcases zif_e h with ⟨hc3, h⟩ | ⟨hc3, h⟩
  · refine rn_if_eq_t (tgt := 17) hc3 zd_X12_start_0.1.1.2.2 rfl ?_
    refine rn_iconst (v := -1) zd_X12_start_0.2.1.1.2 rfl ?_
    cases h
    exact rn_iret zd_X12_start_0.2.1.2.1 rfl
  · refine rn_if_eq_f (tgt := 17) hc3 zd_X12_start_0.1.1.2.2 rfl ?_
    refine rn_iload_n (q := 2) 2 rfl zd_X12_start_0.1.2.1.1 ?_
    refine rn_iconst (v := 0) zd_X12_start_0.1.2.1.2 rfl ?_
    refine rn_iconst (v := 1) zd_X12_start_0.1.2.2.1 rfl ?_
    obtain ⟨r4, h5, h⟩ := zbd_e h
    refine rn_callSi (As := [.int x2, .int (0 : Int32), .int (1 : Int32)]) (rest := []) zl_X12_276 zm_X12_in ⟨by decide, by decide⟩ rfl rfl (Nat.le_of_ble_eq_true rfl) zd_X12_start_0.1.2.2.2 (ok_X12_in hW h5) ?_
    rcases zif_e h with ⟨hc6, h⟩ | ⟨hc6, h⟩
    · refine rn_if_ne_f (tgt := 19) hc6 zd_X12_start_0.2.1.1.1 rfl ?_
      refine rn_iconst (v := -1) zd_X12_start_0.2.1.1.2 rfl ?_
      cases h
      exact rn_iret zd_X12_start_0.2.1.2.1 rfl
    · refine rn_if_ne_t (tgt := 19) hc6 zd_X12_start_0.2.1.1.1 rfl ?_
      refine rn_iconst (v := -1) zd_X12_start_0.2.1.2.2 rfl ?_
      refine rn_istore_n (q := 3) (ls' := [(3, .int (-1 : Int32)), (0, .ref a0), (1, .int x1), (2, .int x2)]) (by decide) rfl zd_X12_start_0.2.2.1.1 ?_
      refine rn_iconst (v := 0) zd_X12_start_0.2.2.1.2 rfl ?_
      refine rn_istore (ls' := [(4, .int (0 : Int32)), (3, .int (-1 : Int32)), (0, .ref a0), (1, .int x1), (2, .int x2)]) (by decide) rfl zd_X12_start_0.2.2.2.1 ?_
      refine rn_iconst (v := 0) zd_X12_start_0.2.2.2.2 rfl ?_
      refine rn_istore (ls' := [(5, .int (0 : Int32)), (4, .int (0 : Int32)), (3, .int (-1 : Int32)), (0, .ref a0), (1, .int x1), (2, .int x2)]) (by decide) rfl zd_X12_start_1.1.1.1.1 ?_
      obtain ⟨e16, he16, h⟩ := zbd_e h
      refine rn_sub (ls' := [(0, .ref a0), (1, .int x1), (2, .int x2), (3, .int (-1 : Int32)), (4, .int (0 : Int32)), (5, .int (0 : Int32))]) [3, 4, 5, 2, 1, 0] rfl (zloop_ok (P := P_X12_start_27 G K R L a0 x1 x2 (some (.int r')) (M', L, R, K)) (Q := Q_X12_start_27 G K R L a0 x1 x2 (some (.int r')) (M', L, R, K)) (fun v x hx hq => ok_b_X12_start_27 hW k_a0 hx hq) _ _ _ he16 ?_)
      show Rn G mt_X12_start 85 [(2, .int x2), (3, .int e16.1), (4, .int e16.2.1)] [] (e16.2.2, L, R, K) (some (.int r')) (M', L, R, K)
      refine rn_iload_n (q := 2) 0 rfl zd_X12_start_2.2.2.2.2 ?_
      rcases zif_e h with ⟨hc17, h⟩ | ⟨hc17, h⟩
      · refine rn_if_ne_f (tgt := 93) hc17 zd_X12_start_3.1.1 rfl ?_
        refine rn_iload_n (q := 3) 1 rfl zd_X12_start_3.1.2 ?_
        refine rn_goto (tgt := 95) zd_X12_start_3.2.1 rfl ?_
        cases h
        exact rn_iret zd_X12_start_3.2.2.2 rfl
      · refine rn_if_ne_t (tgt := 93) hc17 zd_X12_start_3.1.1 rfl ?_
        refine rn_iload 2 rfl zd_X12_start_3.2.2.1 ?_
        cases h
        exact rn_iret zd_X12_start_3.2.2.2 rfl
def f_X12_paidBy (R : zR) (M : zM) (a0 : Nat) (x1 : Int32) : Option (Int32 × zM) :=
  zck (zin (M a0 18) 2) <|
  zbd (f_X12_evening R M a0 (M (R a0 26) (ztn (M a0 18)))) fun M2 =>
  zck (zin ((20 : Int32) + x1) 60) <|
  some ((M2 (R a0 46) (ztn ((20 : Int32) + x1))), M2)
set_option maxRecDepth 4000 in
theorem ok_X12_paidBy {G : zG} {K : zK} {R : zR} {M : zM} {L : zL} (hW : zWT R K) {a0 : Nat} {x1 : Int32} (k_a0 : K[a0]? = some (12, 61)) {r' : Int32} {M' : zM} (h : f_X12_paidBy R M a0 x1 = some (r', M')) : Rm G mt_X12_paidBy [.ref a0, .int x1] (M, L, R, K) (some (.int r')) (M', L, R, K) := by
  refine rm_rn rfl rfl (Nat.le_of_ble_eq_true rfl) ?_
  show Rn G mt_X12_paidBy 0 [(0, .ref a0), (1, .int x1)] [] (M, L, R, K) (some (.int r')) (M', L, R, K)
  unfold f_X12_paidBy at h
  refine rn_aload_n (q := 0) 0 rfl zd_X12_paidBy_0.1.1.1 ?_
  refine rn_aload_n (q := 0) 0 rfl zd_X12_paidBy_0.1.1.2.1 ?_
  refine rn_getR zf_X12_56 (Or.inr ⟨_, rfl⟩) k_a0 (zx_12_26 hW k_a0) zd_X12_paidBy_0.1.1.2.2 ?_
  refine rn_aload_n (q := 0) 0 rfl zd_X12_paidBy_0.1.2.1.1 ?_
  refine rn_getI zf_X12_212 (Or.inl rfl) k_a0 zd_X12_paidBy_0.1.2.1.2 ?_
  obtain ⟨hc1, h⟩ := zck_e h
  refine rn_iald (zw_12_26 hW k_a0) hc1 zd_X12_paidBy_0.1.2.2.1 ?_
  obtain ⟨M2, h3, h⟩ := zbd_e h
  refine rn_callVv (As := [.int (M (R a0 26) (ztn (M a0 18)))]) (rest := []) zl_X12_322 zm_X12_evening ⟨by decide, by decide⟩ (ci := 12) rfl rfl (by decide) k_a0 rfl rfl (Nat.le_of_ble_eq_true rfl) zd_X12_paidBy_0.1.2.2.2 (ok_X12_evening hW k_a0 h3) ?_
  refine rn_aload_n (q := 0) 0 rfl zd_X12_paidBy_0.2.1.1 ?_
  refine rn_getR zf_X12_104 (Or.inr ⟨_, rfl⟩) k_a0 (zx_12_46 hW k_a0) zd_X12_paidBy_0.2.1.2.1 ?_
  refine rn_bipush (v := 20) zd_X12_paidBy_0.2.1.2.2 rfl ?_
  refine rn_iload_n (q := 1) 1 rfl zd_X12_paidBy_0.2.2.1.1 ?_
  refine rn_iadd zd_X12_paidBy_0.2.2.1.2 ?_
  obtain ⟨hc4, h⟩ := zck_e h
  refine rn_iald (zw_12_46 hW k_a0) hc4 zd_X12_paidBy_0.2.2.2.1 ?_
  cases h
  exact rn_iret zd_X12_paidBy_0.2.2.2.2 rfl
def f_X12_wealth (R : zR) (M : zM) (a0 : Nat) (x1 : Int32) (x2 : Int32) (x3 : Int32) : Option (Int32 × zM) :=
  zbd (f_X12_isHouse R M a0 x1) fun r1 =>
  if r1 = 0 then (
    some ((-1000000 : Int32), M)
  ) else (
    zbd (f_X12_isHouse R M a0 x2) fun r4 =>
    if r4 = 0 then (
      some ((-1000000 : Int32), M)
    ) else (
      zbd (f_X12_copies R M a0) fun M7 =>
      zbd (f_X12_shownOf R M7 a0 x1) fun r9 =>
      zbd (f_X12_in x3 (0 : Int32) r9) fun r11 =>
      if r11 = 0 then (
        some ((-1000000 : Int32), M7)
      ) else (
        zbd2 (f_X12_paidBy R M7 a0 x2) fun r14 M15 =>
        zbd (f_X12_copies R M15 a0) fun M17 =>
        zck (zin x1 60) <|
        zck (zin x1 60) <|
        zlt (zup M17 (R a0 46) (ztn x1) ((M17 (R a0 46) (ztn x1)) - x3)) fun M21 =>
        zbd2 (f_X12_paidBy R M21 a0 x2) fun r22 M23 =>
        some ((r14 - r22), M23)
      )
    )
  )
set_option maxRecDepth 4000 in
theorem ok_X12_wealth {G : zG} {K : zK} {R : zR} {M : zM} {L : zL} (hW : zWT R K) {a0 : Nat} {x1 : Int32} {x2 : Int32} {x3 : Int32} (k_a0 : K[a0]? = some (12, 61)) {r' : Int32} {M' : zM} (h : f_X12_wealth R M a0 x1 x2 x3 = some (r', M')) : Rm G mt_X12_wealth [.ref a0, .int x1, .int x2, .int x3] (M, L, R, K) (some (.int r')) (M', L, R, K) := by
  refine rm_rn rfl rfl (Nat.le_of_ble_eq_true rfl) ?_
  show Rn G mt_X12_wealth 0 [(0, .ref a0), (1, .int x1), (2, .int x2), (3, .int x3)] [] (M, L, R, K) (some (.int r')) (M', L, R, K)
  unfold f_X12_wealth at h
  refine rn_aload_n (q := 0) 0 rfl zd_X12_wealth_0.1.1.1.1 ?_
  refine rn_iload_n (q := 1) 1 rfl zd_X12_wealth_0.1.1.1.2 ?_
  obtain ⟨r1, h2, h⟩ := zbd_e h
  refine rn_callVi (As := [.int x1]) (rest := []) zl_X12_325 zm_X12_isHouse ⟨by decide, by decide⟩ (ci := 12) rfl rfl (by decide) k_a0 rfl rfl (Nat.le_of_ble_eq_true rfl) zd_X12_wealth_0.1.1.2.1 (ok_X12_isHouse hW k_a0 h2) ?_
  rcases zif_e h with ⟨hc3, h⟩ | ⟨hc3, h⟩
  · refine rn_if_eq_t (tgt := 16) hc3 zd_X12_wealth_0.1.1.2.2 rfl ?_
    refine rn_ldcw (v := -1000000) zk_X12_354 zd_X12_wealth_0.2.1.1.1 ?_
    cases h
    exact rn_iret zd_X12_wealth_0.2.1.1.2 rfl
  · refine rn_if_eq_f (tgt := 16) hc3 zd_X12_wealth_0.1.1.2.2 rfl ?_
    refine rn_aload_n (q := 0) 0 rfl zd_X12_wealth_0.1.2.1.1 ?_
    refine rn_iload_n (q := 2) 2 rfl zd_X12_wealth_0.1.2.1.2 ?_
    obtain ⟨r4, h5, h⟩ := zbd_e h
    refine rn_callVi (As := [.int x2]) (rest := []) zl_X12_325 zm_X12_isHouse ⟨by decide, by decide⟩ (ci := 12) rfl rfl (by decide) k_a0 rfl rfl (Nat.le_of_ble_eq_true rfl) zd_X12_wealth_0.1.2.2.1 (ok_X12_isHouse hW k_a0 h5) ?_
    rcases zif_e h with ⟨hc6, h⟩ | ⟨hc6, h⟩
    · refine rn_if_ne_f (tgt := 20) hc6 zd_X12_wealth_0.1.2.2.2 rfl ?_
      refine rn_ldcw (v := -1000000) zk_X12_354 zd_X12_wealth_0.2.1.1.1 ?_
      cases h
      exact rn_iret zd_X12_wealth_0.2.1.1.2 rfl
    · refine rn_if_ne_t (tgt := 20) hc6 zd_X12_wealth_0.1.2.2.2 rfl ?_
      refine rn_aload_n (q := 0) 0 rfl zd_X12_wealth_0.2.1.2.1 ?_
      obtain ⟨M7, h8, h⟩ := zbd_e h
      refine rn_callVv (As := []) (rest := []) zl_X12_328 zm_X12_copies ⟨by decide, by decide⟩ (ci := 12) rfl rfl (by decide) k_a0 rfl rfl (Nat.le_of_ble_eq_true rfl) zd_X12_wealth_0.2.1.2.2 (ok_X12_copies hW k_a0 h8) ?_
      refine rn_iload_n (q := 3) 3 rfl zd_X12_wealth_0.2.2.1.1 ?_
      refine rn_iconst (v := 0) zd_X12_wealth_0.2.2.1.2 rfl ?_
      refine rn_aload_n (q := 0) 0 rfl zd_X12_wealth_0.2.2.2.1 ?_
      refine rn_iload_n (q := 1) 1 rfl zd_X12_wealth_0.2.2.2.2 ?_
      obtain ⟨r9, h10, h⟩ := zbd_e h
      refine rn_callVi (As := [.int x1]) (rest := [.int (0 : Int32), .int x3]) zl_X12_280 zm_X12_shownOf ⟨by decide, by decide⟩ (ci := 12) rfl rfl (by decide) k_a0 rfl rfl (Nat.le_of_ble_eq_true rfl) zd_X12_wealth_1.1.1.1.1 (ok_X12_shownOf hW k_a0 h10) ?_
      obtain ⟨r11, h12, h⟩ := zbd_e h
      refine rn_callSi (As := [.int x3, .int (0 : Int32), .int r9]) (rest := []) zl_X12_276 zm_X12_in ⟨by decide, by decide⟩ rfl rfl (Nat.le_of_ble_eq_true rfl) zd_X12_wealth_1.1.1.1.2 (ok_X12_in hW h12) ?_
      rcases zif_e h with ⟨hc13, h⟩ | ⟨hc13, h⟩
      · refine rn_if_ne_f (tgt := 41) hc13 zd_X12_wealth_1.1.1.2.1 rfl ?_
        refine rn_ldcw (v := -1000000) zk_X12_354 zd_X12_wealth_1.1.1.2.2 ?_
        cases h
        exact rn_iret zd_X12_wealth_1.1.2.1.1 rfl
      · refine rn_if_ne_t (tgt := 41) hc13 zd_X12_wealth_1.1.1.2.1 rfl ?_
        refine rn_aload_n (q := 0) 0 rfl zd_X12_wealth_1.1.2.1.2 ?_
        refine rn_iload_n (q := 2) 2 rfl zd_X12_wealth_1.1.2.2.1 ?_
        obtain ⟨r14, M15, h16, h⟩ := zbd2_e h
        refine rn_callVi (As := [.int x2]) (rest := []) zl_X12_355 zm_X12_paidBy ⟨by decide, by decide⟩ (ci := 12) rfl rfl (by decide) k_a0 rfl rfl (Nat.le_of_ble_eq_true rfl) zd_X12_wealth_1.1.2.2.2 (ok_X12_paidBy hW k_a0 h16) ?_
        refine rn_istore (ls' := [(4, .int r14), (0, .ref a0), (1, .int x1), (2, .int x2), (3, .int x3)]) (by decide) rfl zd_X12_wealth_1.2.1.1.1 ?_
        refine rn_aload_n (q := 0) 1 rfl zd_X12_wealth_1.2.1.1.2 ?_
        obtain ⟨M17, h18, h⟩ := zbd_e h
        refine rn_callVv (As := []) (rest := []) zl_X12_328 zm_X12_copies ⟨by decide, by decide⟩ (ci := 12) rfl rfl (by decide) k_a0 rfl rfl (Nat.le_of_ble_eq_true rfl) zd_X12_wealth_1.2.1.2.1 (ok_X12_copies hW k_a0 h18) ?_
        refine rn_aload_n (q := 0) 1 rfl zd_X12_wealth_1.2.1.2.2 ?_
        refine rn_getR zf_X12_104 (Or.inr ⟨_, rfl⟩) k_a0 (zx_12_46 hW k_a0) zd_X12_wealth_1.2.2.1.1 ?_
        refine rn_iload_n (q := 1) 2 rfl zd_X12_wealth_1.2.2.1.2 ?_
        refine rn_dup2 zd_X12_wealth_1.2.2.2.1 rfl rfl ?_
        obtain ⟨hc19, h⟩ := zck_e h
        refine rn_iald (zw_12_46 hW k_a0) hc19 zd_X12_wealth_1.2.2.2.2 ?_
        refine rn_iload_n (q := 3) 4 rfl zd_X12_wealth_2.1.1.1 ?_
        refine rn_isub zd_X12_wealth_2.1.1.2 ?_
        obtain ⟨hc20, h⟩ := zck_e h
        obtain ⟨M21, hM21, h⟩ := zlt_e h
        refine rn_iast hM21 (zw_12_46 hW k_a0) hc20 zd_X12_wealth_2.1.2.1 ?_
        refine rn_iload 0 rfl zd_X12_wealth_2.1.2.2 ?_
        refine rn_aload_n (q := 0) 1 rfl zd_X12_wealth_2.2.1.1 ?_
        refine rn_iload_n (q := 2) 3 rfl zd_X12_wealth_2.2.1.2 ?_
        obtain ⟨r22, M23, h24, h⟩ := zbd2_e h
        refine rn_callVi (As := [.int x2]) (rest := [.int r14]) zl_X12_355 zm_X12_paidBy ⟨by decide, by decide⟩ (ci := 12) rfl rfl (by decide) k_a0 rfl rfl (Nat.le_of_ble_eq_true rfl) zd_X12_wealth_2.2.2.1 (ok_X12_paidBy hW k_a0 h24) ?_
        refine rn_isub zd_X12_wealth_2.2.2.2.1 ?_
        cases h
        exact rn_iret zd_X12_wealth_2.2.2.2.2 rfl
abbrev P_X12_frees_45 (G : zG) (K : zK) (R : zR) (L : zL) (a0 : Nat) (x1 : Int32) (x2 : Int32) (r : Option Value) (S' : zS) (v : Int32 × zM) : Prop := Rn G mt_X12_frees 45 [(0, .ref a0), (1, .int x1), (2, .int x2), (3, .int v.1)] [] (v.2, L, R, K) r S'
abbrev Q_X12_frees_45 (G : zG) (K : zK) (R : zR) (L : zL) (a0 : Nat) (x1 : Int32) (x2 : Int32) (r : Option Value) (S' : zS) : (Int32 × Int32 × zM) ⊕ (zM) → Prop := (Sum.elim (fun e => Rn G mt_X12_frees 139 [(0, .ref a0), (3, .int e.1), (4, .int e.2.1)] [] (e.2.2, L, R, K) r S') (fun e => Rn G mt_X12_frees 159 [] [] (e, L, R, K) r S'))
abbrev P_X12_frees_53 (G : zG) (K : zK) (R : zR) (L : zL) (a0 : Nat) (x1 : Int32) (x2 : Int32) (x3 : Int32) (r : Option Value) (S' : zS) (v : Int32 × zM) : Prop := Rn G mt_X12_frees 53 [(0, .ref a0), (1, .int x1), (2, .int x2), (3, .int x3), (4, .int v.1)] [] (v.2, L, R, K) r S'
abbrev Q_X12_frees_53 (G : zG) (K : zK) (R : zR) (L : zL) (a0 : Nat) (x1 : Int32) (x2 : Int32) (x3 : Int32) (r : Option Value) (S' : zS) : (Int32 × zM) ⊕ (zM) → Prop := (Sum.elim (fun e => Rn G mt_X12_frees 139 [(0, .ref a0), (3, .int x3), (4, .int e.1)] [] (e.2, L, R, K) r S') (fun e => Rn G mt_X12_frees 153 [(0, .ref a0), (1, .int x1), (2, .int x2), (3, .int x3)] [] (e, L, R, K) r S'))
def j_X12_frees_108 (R : zR) (M : zM) (a0 : Nat) (x1 : Int32) (x2 : Int32) (x3 : Int32) (x4 : Int32) (s0 : Int32) : Option ((Int32 × zM) ⊕ ((Int32 × zM) ⊕ (zM))) :=
  zck (zin x1 60) <|
  zck (zin x1 60) <|
  zlt (zup M (R a0 46) (ztn x1) ((M (R a0 46) (ztn x1)) + x3)) fun M26 =>
  zck (zin x4 60) <|
  zck (zin x4 60) <|
  zlt (zup M26 (R a0 46) (ztn x4) ((M26 (R a0 46) (ztn x4)) - x3)) fun M29 =>
  if s0 = 0 then (
    some (.inl ((x4 + 1), M29))
  ) else (
    some (.inr (.inl (x4, M29)))
  )
set_option maxRecDepth 4000 in
theorem ok_j_X12_frees_108 {G : zG} {K : zK} {R : zR} {M : zM} {L : zL} (hW : zWT R K) {a0 : Nat} {x1 : Int32} {x2 : Int32} {x3 : Int32} {x4 : Int32} {s0 : Int32} (k_a0 : K[a0]? = some (12, 61)) {r : Option Value} {S' : zS} {x : (Int32 × zM) ⊕ ((Int32 × zM) ⊕ (zM))} (h : j_X12_frees_108 R M a0 x1 x2 x3 x4 s0 = some x) (hk : Sum.elim (P_X12_frees_53 G K R L a0 x1 x2 x3 r S') (Q_X12_frees_53 G K R L a0 x1 x2 x3 r S') x) : Rn G mt_X12_frees 108 [(0, .ref a0), (1, .int x1), (2, .int x2), (3, .int x3), (4, .int x4)] [.int s0] (M, L, R, K) r S' := by
  unfold j_X12_frees_108 at h
  refine rn_istore (ls' := [(5, .int s0), (0, .ref a0), (1, .int x1), (2, .int x2), (3, .int x3), (4, .int x4)]) (by decide) rfl zd_X12_frees_3.2.2.2.1 ?_
  refine rn_aload_n (q := 0) 1 rfl zd_X12_frees_3.2.2.2.2 ?_
  refine rn_getR zf_X12_104 (Or.inr ⟨_, rfl⟩) k_a0 (zx_12_46 hW k_a0) zd_X12_frees_4.1.1.1.1 ?_
  refine rn_iload_n (q := 1) 2 rfl zd_X12_frees_4.1.1.1.2 ?_
  refine rn_dup2 zd_X12_frees_4.1.1.2.1 rfl rfl ?_
  obtain ⟨hc24, h⟩ := zck_e h
  refine rn_iald (zw_12_46 hW k_a0) hc24 zd_X12_frees_4.1.1.2.2 ?_
  refine rn_iload_n (q := 3) 4 rfl zd_X12_frees_4.1.2.1.1 ?_
  refine rn_iadd zd_X12_frees_4.1.2.1.2 ?_
  obtain ⟨hc25, h⟩ := zck_e h
  obtain ⟨M26, hM26, h⟩ := zlt_e h
  refine rn_iast hM26 (zw_12_46 hW k_a0) hc25 zd_X12_frees_4.1.2.2.1 ?_
  refine rn_aload_n (q := 0) 1 rfl zd_X12_frees_4.1.2.2.2 ?_
  refine rn_getR zf_X12_104 (Or.inr ⟨_, rfl⟩) k_a0 (zx_12_46 hW k_a0) zd_X12_frees_4.2.1.1.1 ?_
  refine rn_iload 5 rfl zd_X12_frees_4.2.1.1.2 ?_
  refine rn_dup2 zd_X12_frees_4.2.1.2.1 rfl rfl ?_
  obtain ⟨hc27, h⟩ := zck_e h
  refine rn_iald (zw_12_46 hW k_a0) hc27 zd_X12_frees_4.2.1.2.2 ?_
  refine rn_iload_n (q := 3) 4 rfl zd_X12_frees_4.2.2.1.1 ?_
  refine rn_isub zd_X12_frees_4.2.2.1.2 ?_
  obtain ⟨hc28, h⟩ := zck_e h
  obtain ⟨M29, hM29, h⟩ := zlt_e h
  refine rn_iast hM29 (zw_12_46 hW k_a0) hc28 zd_X12_frees_4.2.2.2.1 ?_
  refine rn_iload 0 rfl zd_X12_frees_4.2.2.2.2 ?_
  rcases zif_e h with ⟨hc30, h⟩ | ⟨hc30, h⟩
  · refine rn_if_ne_f (tgt := 139) hc30 zd_X12_frees_5.1.1.1 rfl ?_
    refine rn_goto (tgt := 147) zd_X12_frees_5.1.1.2.1 rfl ?_
    refine rn_iinc (v := (x4 + 1)) (ls' := [(4, .int (x4 + 1)), (5, .int s0), (0, .ref a0), (1, .int x1), (2, .int x2), (3, .int x3)]) 5 rfl rfl (by decide) rfl zd_X12_frees_5.2.1.2.1 ?_
    refine rn_goto (tgt := 53) zd_X12_frees_5.2.1.2.2 rfl ?_
    cases h
    exact rn_sub (ls' := [(0, .ref a0), (1, .int x1), (2, .int x2), (3, .int x3), (4, .int (x4 + 1))]) [2, 3, 4, 5, 0] rfl hk
  · refine rn_if_ne_t (tgt := 139) hc30 zd_X12_frees_5.1.1.1 rfl ?_
    cases h
    exact rn_sub (ls' := [(0, .ref a0), (3, .int x3), (4, .int x4)]) [1, 4, 5] rfl hk
def b_X12_frees_53 (R : zR) (M : zM) (a0 : Nat) (x1 : Int32) (x2 : Int32) (x3 : Int32) (x4 : Int32) : Option ((Int32 × zM) ⊕ ((Int32 × zM) ⊕ (zM))) :=
  if (M (R a0 46) (ztn (40 : Int32))) ≤ x4 then (
    some (.inr (.inr M))
  ) else (
    if x4 = x1 then (
      some (.inl ((x4 + 1), M))
    ) else (
      zck (zin x1 60) <|
      zck (zin x1 60) <|
      zlt (zup M (R a0 46) (ztn x1) ((M (R a0 46) (ztn x1)) - x3)) fun M16 =>
      zck (zin x4 60) <|
      zck (zin x4 60) <|
      zlt (zup M16 (R a0 46) (ztn x4) ((M16 (R a0 46) (ztn x4)) + x3)) fun M19 =>
      zbd2 (f_X12_wanted R M19 a0 x1) fun r20 M21 =>
      if r20 = 0 then (
        j_X12_frees_108 R M21 a0 x1 x2 x3 x4 (1 : Int32)
      ) else (
        j_X12_frees_108 R M21 a0 x1 x2 x3 x4 (0 : Int32)
      )
    )
  )
set_option maxRecDepth 4000 in
theorem ok_b_X12_frees_53 {G : zG} {K : zK} {R : zR} {M : zM} {L : zL} (hW : zWT R K) {a0 : Nat} {x1 : Int32} {x2 : Int32} {x3 : Int32} {x4 : Int32} (k_a0 : K[a0]? = some (12, 61)) {r : Option Value} {S' : zS} {x : (Int32 × zM) ⊕ ((Int32 × zM) ⊕ (zM))} (h : b_X12_frees_53 R M a0 x1 x2 x3 x4 = some x) (hk : Sum.elim (P_X12_frees_53 G K R L a0 x1 x2 x3 r S') (Q_X12_frees_53 G K R L a0 x1 x2 x3 r S') x) : P_X12_frees_53 G K R L a0 x1 x2 x3 r S' (x4, M) := by
  show Rn G mt_X12_frees 53 [(0, .ref a0), (1, .int x1), (2, .int x2), (3, .int x3), (4, .int x4)] [] (M, L, R, K) r S'
  unfold b_X12_frees_53 at h
  refine rn_iload 4 rfl zd_X12_frees_1.2.2.1.2 ?_
  refine rn_aload_n (q := 0) 0 rfl zd_X12_frees_1.2.2.2.1 ?_
  refine rn_getR zf_X12_104 (Or.inr ⟨_, rfl⟩) k_a0 (zx_12_46 hW k_a0) zd_X12_frees_1.2.2.2.2 ?_
  refine rn_bipush (v := 40) zd_X12_frees_2.1.1.1.1 rfl ?_
  refine rn_iald (zw_12_46 hW k_a0) (by decide) zd_X12_frees_2.1.1.1.2 ?_
  rcases zif_e h with ⟨hc12, h⟩ | ⟨hc12, h⟩
  · refine rn_icmp_ge_t (tgt := 153) hc12 zd_X12_frees_2.1.1.2.1 rfl ?_
    cases h
    exact rn_sub (ls' := [(0, .ref a0), (1, .int x1), (2, .int x2), (3, .int x3)]) [0, 1, 2, 3] rfl hk
  · refine rn_icmp_ge_f (tgt := 153) hc12 zd_X12_frees_2.1.1.2.1 rfl ?_
    refine rn_iload 4 rfl zd_X12_frees_2.1.1.2.2 ?_
    refine rn_iload_n (q := 1) 1 rfl zd_X12_frees_2.1.2.1.1 ?_
    rcases zif_e h with ⟨hc13, h⟩ | ⟨hc13, h⟩
    · refine rn_icmp_ne_f (tgt := 74) hc13 zd_X12_frees_2.1.2.1.2 rfl ?_
      refine rn_goto (tgt := 147) zd_X12_frees_2.1.2.2.1 rfl ?_
      refine rn_iinc (v := (x4 + 1)) (ls' := [(4, .int (x4 + 1)), (0, .ref a0), (1, .int x1), (2, .int x2), (3, .int x3)]) 4 rfl rfl (by decide) rfl zd_X12_frees_5.2.1.2.1 ?_
      refine rn_goto (tgt := 53) zd_X12_frees_5.2.1.2.2 rfl ?_
      cases h
      exact rn_sub (ls' := [(0, .ref a0), (1, .int x1), (2, .int x2), (3, .int x3), (4, .int (x4 + 1))]) [1, 2, 3, 4, 0] rfl hk
    · refine rn_icmp_ne_t (tgt := 74) hc13 zd_X12_frees_2.1.2.1.2 rfl ?_
      refine rn_aload_n (q := 0) 0 rfl zd_X12_frees_2.1.2.2.2 ?_
      refine rn_getR zf_X12_104 (Or.inr ⟨_, rfl⟩) k_a0 (zx_12_46 hW k_a0) zd_X12_frees_2.2.1.1.1 ?_
      refine rn_iload_n (q := 1) 1 rfl zd_X12_frees_2.2.1.1.2 ?_
      refine rn_dup2 zd_X12_frees_2.2.1.2.1 rfl rfl ?_
      obtain ⟨hc14, h⟩ := zck_e h
      refine rn_iald (zw_12_46 hW k_a0) hc14 zd_X12_frees_2.2.1.2.2 ?_
      refine rn_iload_n (q := 3) 3 rfl zd_X12_frees_2.2.2.1.1 ?_
      refine rn_isub zd_X12_frees_2.2.2.1.2 ?_
      obtain ⟨hc15, h⟩ := zck_e h
      obtain ⟨M16, hM16, h⟩ := zlt_e h
      refine rn_iast hM16 (zw_12_46 hW k_a0) hc15 zd_X12_frees_2.2.2.2.1 ?_
      refine rn_aload_n (q := 0) 0 rfl zd_X12_frees_2.2.2.2.2 ?_
      refine rn_getR zf_X12_104 (Or.inr ⟨_, rfl⟩) k_a0 (zx_12_46 hW k_a0) zd_X12_frees_3.1.1.1.1 ?_
      refine rn_iload 4 rfl zd_X12_frees_3.1.1.1.2 ?_
      refine rn_dup2 zd_X12_frees_3.1.1.2.1 rfl rfl ?_
      obtain ⟨hc17, h⟩ := zck_e h
      refine rn_iald (zw_12_46 hW k_a0) hc17 zd_X12_frees_3.1.1.2.2 ?_
      refine rn_iload_n (q := 3) 3 rfl zd_X12_frees_3.1.2.1.1 ?_
      refine rn_iadd zd_X12_frees_3.1.2.1.2 ?_
      obtain ⟨hc18, h⟩ := zck_e h
      obtain ⟨M19, hM19, h⟩ := zlt_e h
      refine rn_iast hM19 (zw_12_46 hW k_a0) hc18 zd_X12_frees_3.1.2.2.1 ?_
      refine rn_aload_n (q := 0) 0 rfl zd_X12_frees_3.1.2.2.2 ?_
      refine rn_iload_n (q := 1) 1 rfl zd_X12_frees_3.2.1.1.1 ?_
      obtain ⟨r20, M21, h22, h⟩ := zbd2_e h
      refine rn_callVi (As := [.int x1]) (rest := []) zl_X12_303 zm_X12_wanted ⟨by decide, by decide⟩ (ci := 12) rfl rfl (by decide) k_a0 rfl rfl (Nat.le_of_ble_eq_true rfl) zd_X12_frees_3.2.1.1.2 (ok_X12_wanted hW k_a0 h22) ?_
      rcases zif_e h with ⟨hc23, h⟩ | ⟨hc23, h⟩
      · refine rn_if_ne_f (tgt := 107) hc23 zd_X12_frees_3.2.1.2.1 rfl ?_
        refine rn_iconst (v := 1) zd_X12_frees_3.2.1.2.2 rfl ?_
        refine rn_goto (tgt := 108) zd_X12_frees_3.2.2.1.1 rfl ?_
        exact rn_sub (ls' := [(0, .ref a0), (1, .int x1), (2, .int x2), (3, .int x3), (4, .int x4)]) [0, 1, 2, 3, 4] rfl (ok_j_X12_frees_108 hW k_a0 h hk)
      · refine rn_if_ne_t (tgt := 107) hc23 zd_X12_frees_3.2.1.2.1 rfl ?_
        refine rn_iconst (v := 0) zd_X12_frees_3.2.2.1.2 rfl ?_
        exact rn_sub (ls' := [(0, .ref a0), (1, .int x1), (2, .int x2), (3, .int x3), (4, .int x4)]) [0, 1, 2, 3, 4] rfl (ok_j_X12_frees_108 hW k_a0 h hk)
def b_X12_frees_45 (R : zR) (M : zM) (a0 : Nat) (x1 : Int32) (x2 : Int32) (x3 : Int32) : Option ((Int32 × zM) ⊕ ((Int32 × Int32 × zM) ⊕ (zM))) :=
  if x2 < x3 then (
    some (.inr (.inr M))
  ) else (
    zbd (zloop zN (fun v => b_X12_frees_53 R v.2 a0 x1 x2 x3 v.1) ((0 : Int32), M)) fun e31 =>
    Sum.elim (fun e32 =>
      some (.inr (.inl (x3, e32.1, e32.2)))
    ) (fun e33 =>
      some (.inl ((x3 + 1), e33))
    ) e31
  )
set_option maxRecDepth 4000 in
theorem ok_b_X12_frees_45 {G : zG} {K : zK} {R : zR} {M : zM} {L : zL} (hW : zWT R K) {a0 : Nat} {x1 : Int32} {x2 : Int32} {x3 : Int32} (k_a0 : K[a0]? = some (12, 61)) {r : Option Value} {S' : zS} {x : (Int32 × zM) ⊕ ((Int32 × Int32 × zM) ⊕ (zM))} (h : b_X12_frees_45 R M a0 x1 x2 x3 = some x) (hk : Sum.elim (P_X12_frees_45 G K R L a0 x1 x2 r S') (Q_X12_frees_45 G K R L a0 x1 x2 r S') x) : P_X12_frees_45 G K R L a0 x1 x2 r S' (x3, M) := by
  show Rn G mt_X12_frees 45 [(0, .ref a0), (1, .int x1), (2, .int x2), (3, .int x3)] [] (M, L, R, K) r S'
  unfold b_X12_frees_45 at h
  refine rn_iload_n (q := 3) 3 rfl zd_X12_frees_1.2.1.1.1 ?_
  refine rn_iload_n (q := 2) 2 rfl zd_X12_frees_1.2.1.1.2 ?_
  rcases zif_e h with ⟨hc11, h⟩ | ⟨hc11, h⟩
  · refine rn_icmp_gt_t (tgt := 159) hc11 zd_X12_frees_1.2.1.2.1 rfl ?_
    cases h
    exact rn_sub (ls' := []) [] rfl hk
  · refine rn_icmp_gt_f (tgt := 159) hc11 zd_X12_frees_1.2.1.2.1 rfl ?_
    refine rn_iconst (v := 0) zd_X12_frees_1.2.1.2.2 rfl ?_
    refine rn_istore (ls' := [(4, .int (0 : Int32)), (0, .ref a0), (1, .int x1), (2, .int x2), (3, .int x3)]) (by decide) rfl zd_X12_frees_1.2.2.1.1 ?_
    obtain ⟨e31, he31, h⟩ := zbd_e h
    refine rn_sub (ls' := [(0, .ref a0), (1, .int x1), (2, .int x2), (3, .int x3), (4, .int (0 : Int32))]) [1, 2, 3, 4, 0] rfl (zloop_ok (P := P_X12_frees_53 G K R L a0 x1 x2 x3 r S') (Q := Q_X12_frees_53 G K R L a0 x1 x2 x3 r S') (fun v x hx hq => ok_b_X12_frees_53 hW k_a0 hx hq) _ _ _ he31 ?_)
    rcases e31 with e32 | e33
    · rw [Sum.elim_inl] at h
      show Rn G mt_X12_frees 139 [(0, .ref a0), (3, .int x3), (4, .int e32.1)] [] (e32.2, L, R, K) r S'
      cases h
      exact rn_sub (ls' := [(0, .ref a0), (3, .int x3), (4, .int e32.1)]) [0, 1, 2] rfl hk
    · rw [Sum.elim_inr] at h
      show Rn G mt_X12_frees 153 [(0, .ref a0), (1, .int x1), (2, .int x2), (3, .int x3)] [] (e33, L, R, K) r S'
      refine rn_iinc (v := (x3 + 1)) (ls' := [(3, .int (x3 + 1)), (0, .ref a0), (1, .int x1), (2, .int x2)]) 3 rfl rfl (by decide) rfl zd_X12_frees_5.2.2.1.1 ?_
      refine rn_goto (tgt := 45) zd_X12_frees_5.2.2.1.2 rfl ?_
      cases h
      exact rn_sub (ls' := [(0, .ref a0), (1, .int x1), (2, .int x2), (3, .int (x3 + 1))]) [1, 2, 3, 0] rfl hk
def f_X12_frees (R : zR) (M : zM) (a0 : Nat) (x1 : Int32) : Option (Int32 × zM) :=
  zbd (f_X12_copies R M a0) fun M1 =>
  zlt (zup M1 a0 51 (-2 : Int32)) fun M3 =>
  zbd2 (f_X12_wanted R M3 a0 x1) fun r4 M5 =>
  if r4 = 0 then (
    some ((0 : Int32), M5)
  ) else (
    zbd (f_X12_shownOf R M5 a0 x1) fun r8 =>
    if (2000 : Int32) ≤ r8 then (
      zbd (zloop zN (fun v => b_X12_frees_45 R v.2 a0 x1 (2000 : Int32) v.1) ((1 : Int32), M5)) fun e34 =>
      Sum.elim (fun e35 =>
        zlt (zup e35.2.2 a0 51 e35.2.1) fun M37 =>
        some (e35.1, M37)
      ) (fun e36 =>
        some ((-2 : Int32), e36)
      ) e34
    ) else (
      zbd (f_X12_shownOf R M5 a0 x1) fun r38 =>
      zbd (zloop zN (fun v => b_X12_frees_45 R v.2 a0 x1 r38 v.1) ((1 : Int32), M5)) fun e40 =>
      Sum.elim (fun e41 =>
        zlt (zup e41.2.2 a0 51 e41.2.1) fun M43 =>
        some (e41.1, M43)
      ) (fun e42 =>
        some ((-2 : Int32), e42)
      ) e40
    )
  )
set_option maxRecDepth 4000 in
theorem ok_X12_frees {G : zG} {K : zK} {R : zR} {M : zM} {L : zL} (hW : zWT R K) {a0 : Nat} {x1 : Int32} (k_a0 : K[a0]? = some (12, 61)) {r' : Int32} {M' : zM} (h : f_X12_frees R M a0 x1 = some (r', M')) : Rm G mt_X12_frees [.ref a0, .int x1] (M, L, R, K) (some (.int r')) (M', L, R, K) := by
  refine rm_rn rfl rfl (Nat.le_of_ble_eq_true rfl) ?_
  show Rn G mt_X12_frees 0 [(0, .ref a0), (1, .int x1)] [] (M, L, R, K) (some (.int r')) (M', L, R, K)
  unfold f_X12_frees at h
  refine rn_aload_n (q := 0) 0 rfl zd_X12_frees_0.1.1.1.1 ?_
  obtain ⟨M1, h2, h⟩ := zbd_e h
  refine rn_callVv (As := []) (rest := []) zl_X12_328 zm_X12_copies ⟨by decide, by decide⟩ (ci := 12) rfl rfl (by decide) k_a0 rfl rfl (Nat.le_of_ble_eq_true rfl) zd_X12_frees_0.1.1.1.2 (ok_X12_copies hW k_a0 h2) ?_
  refine rn_aload_n (q := 0) 0 rfl zd_X12_frees_0.1.1.2.1 ?_
  refine rn_bipush (v := -2) zd_X12_frees_0.1.1.2.2 rfl ?_
  obtain ⟨M3, hM3, h⟩ := zlt_e h
  refine rn_putI hM3 zf_X12_358 k_a0 zd_X12_frees_0.1.2.1.1 ?_
  refine rn_aload_n (q := 0) 0 rfl zd_X12_frees_0.1.2.1.2 ?_
  refine rn_iload_n (q := 1) 1 rfl zd_X12_frees_0.1.2.2.1 ?_
  obtain ⟨r4, M5, h6, h⟩ := zbd2_e h
  refine rn_callVi (As := [.int x1]) (rest := []) zl_X12_303 zm_X12_wanted ⟨by decide, by decide⟩ (ci := 12) rfl rfl (by decide) k_a0 rfl rfl (Nat.le_of_ble_eq_true rfl) zd_X12_frees_0.1.2.2.2 (ok_X12_wanted hW k_a0 h6) ?_
  rcases zif_e h with ⟨hc7, h⟩ | ⟨hc7, h⟩
  · refine rn_if_ne_f (tgt := 20) hc7 zd_X12_frees_0.2.1.1.1 rfl ?_
    refine rn_iconst (v := 0) zd_X12_frees_0.2.1.1.2 rfl ?_
    cases h
    exact rn_iret zd_X12_frees_0.2.1.2.1 rfl
  · refine rn_if_ne_t (tgt := 20) hc7 zd_X12_frees_0.2.1.1.1 rfl ?_
    refine rn_aload_n (q := 0) 0 rfl zd_X12_frees_0.2.1.2.2 ?_
    refine rn_iload_n (q := 1) 1 rfl zd_X12_frees_0.2.2.1.1 ?_
    obtain ⟨r8, h9, h⟩ := zbd_e h
    refine rn_callVi (As := [.int x1]) (rest := []) zl_X12_280 zm_X12_shownOf ⟨by decide, by decide⟩ (ci := 12) rfl rfl (by decide) k_a0 rfl rfl (Nat.le_of_ble_eq_true rfl) zd_X12_frees_0.2.2.1.2 (ok_X12_shownOf hW k_a0 h9) ?_
    refine rn_sipush (v := 2000) zd_X12_frees_0.2.2.2.1 rfl ?_
    rcases zif_e h with ⟨hc10, h⟩ | ⟨hc10, h⟩
    · refine rn_icmp_ge_t (tgt := 39) hc10 zd_X12_frees_0.2.2.2.2 rfl ?_
      refine rn_sipush (v := 2000) zd_X12_frees_1.1.2.1.1 rfl ?_
      refine rn_istore_n (q := 2) (ls' := [(2, .int (2000 : Int32)), (0, .ref a0), (1, .int x1)]) (by decide) rfl zd_X12_frees_1.1.2.1.2 ?_
      refine rn_iconst (v := 1) zd_X12_frees_1.1.2.2.1 rfl ?_
      refine rn_istore_n (q := 3) (ls' := [(3, .int (1 : Int32)), (2, .int (2000 : Int32)), (0, .ref a0), (1, .int x1)]) (by decide) rfl zd_X12_frees_1.1.2.2.2 ?_
      obtain ⟨e34, he34, h⟩ := zbd_e h
      refine rn_sub (ls' := [(0, .ref a0), (1, .int x1), (2, .int (2000 : Int32)), (3, .int (1 : Int32))]) [2, 3, 1, 0] rfl (zloop_ok (P := P_X12_frees_45 G K R L a0 x1 (2000 : Int32) (some (.int r')) (M', L, R, K)) (Q := Q_X12_frees_45 G K R L a0 x1 (2000 : Int32) (some (.int r')) (M', L, R, K)) (fun v x hx hq => ok_b_X12_frees_45 hW k_a0 hx hq) _ _ _ he34 ?_)
      rcases e34 with e35 | e36
      · rw [Sum.elim_inl] at h
        show Rn G mt_X12_frees 139 [(0, .ref a0), (3, .int e35.1), (4, .int e35.2.1)] [] (e35.2.2, L, R, K) (some (.int r')) (M', L, R, K)
        refine rn_aload_n (q := 0) 0 rfl zd_X12_frees_5.1.1.2.2 ?_
        refine rn_iload 2 rfl zd_X12_frees_5.1.2.1 ?_
        obtain ⟨M37, hM37, h⟩ := zlt_e h
        refine rn_putI hM37 zf_X12_358 k_a0 zd_X12_frees_5.1.2.2.1 ?_
        refine rn_iload_n (q := 3) 1 rfl zd_X12_frees_5.1.2.2.2 ?_
        cases h
        exact rn_iret zd_X12_frees_5.2.1.1 rfl
      · rw [Sum.elim_inr] at h
        show Rn G mt_X12_frees 159 [] [] (e36, L, R, K) (some (.int r')) (M', L, R, K)
        refine rn_bipush (v := -2) zd_X12_frees_5.2.2.2.1 rfl ?_
        cases h
        exact rn_iret zd_X12_frees_5.2.2.2.2 rfl
    · refine rn_icmp_ge_f (tgt := 39) hc10 zd_X12_frees_0.2.2.2.2 rfl ?_
      refine rn_aload_n (q := 0) 0 rfl zd_X12_frees_1.1.1.1.1 ?_
      refine rn_iload_n (q := 1) 1 rfl zd_X12_frees_1.1.1.1.2 ?_
      obtain ⟨r38, h39, h⟩ := zbd_e h
      refine rn_callVi (As := [.int x1]) (rest := []) zl_X12_280 zm_X12_shownOf ⟨by decide, by decide⟩ (ci := 12) rfl rfl (by decide) k_a0 rfl rfl (Nat.le_of_ble_eq_true rfl) zd_X12_frees_1.1.1.2.1 (ok_X12_shownOf hW k_a0 h39) ?_
      refine rn_goto (tgt := 42) zd_X12_frees_1.1.1.2.2 rfl ?_
      refine rn_istore_n (q := 2) (ls' := [(2, .int r38), (0, .ref a0), (1, .int x1)]) (by decide) rfl zd_X12_frees_1.1.2.1.2 ?_
      refine rn_iconst (v := 1) zd_X12_frees_1.1.2.2.1 rfl ?_
      refine rn_istore_n (q := 3) (ls' := [(3, .int (1 : Int32)), (2, .int r38), (0, .ref a0), (1, .int x1)]) (by decide) rfl zd_X12_frees_1.1.2.2.2 ?_
      obtain ⟨e40, he40, h⟩ := zbd_e h
      refine rn_sub (ls' := [(0, .ref a0), (1, .int x1), (2, .int r38), (3, .int (1 : Int32))]) [2, 3, 1, 0] rfl (zloop_ok (P := P_X12_frees_45 G K R L a0 x1 r38 (some (.int r')) (M', L, R, K)) (Q := Q_X12_frees_45 G K R L a0 x1 r38 (some (.int r')) (M', L, R, K)) (fun v x hx hq => ok_b_X12_frees_45 hW k_a0 hx hq) _ _ _ he40 ?_)
      rcases e40 with e41 | e42
      · rw [Sum.elim_inl] at h
        show Rn G mt_X12_frees 139 [(0, .ref a0), (3, .int e41.1), (4, .int e41.2.1)] [] (e41.2.2, L, R, K) (some (.int r')) (M', L, R, K)
        refine rn_aload_n (q := 0) 0 rfl zd_X12_frees_5.1.1.2.2 ?_
        refine rn_iload 2 rfl zd_X12_frees_5.1.2.1 ?_
        obtain ⟨M43, hM43, h⟩ := zlt_e h
        refine rn_putI hM43 zf_X12_358 k_a0 zd_X12_frees_5.1.2.2.1 ?_
        refine rn_iload_n (q := 3) 1 rfl zd_X12_frees_5.1.2.2.2 ?_
        cases h
        exact rn_iret zd_X12_frees_5.2.1.1 rfl
      · rw [Sum.elim_inr] at h
        show Rn G mt_X12_frees 159 [] [] (e42, L, R, K) (some (.int r')) (M', L, R, K)
        refine rn_bipush (v := -2) zd_X12_frees_5.2.2.2.1 rfl ?_
        cases h
        exact rn_iret zd_X12_frees_5.2.2.2.2 rfl
def f_X12_free (R : zR) (M : zM) (a0 : Nat) (x1 : Int32) (x2 : Int32) : Option (Int32 × zM) :=
  zbd (f_X12_isHouse R M a0 x1) fun r1 =>
  if r1 = 0 then (
    some ((-1 : Int32), M)
  ) else (
    zbd (f_X12_in x2 (0 : Int32) (1 : Int32)) fun r4 =>
    if r4 = 0 then (
      some ((-1 : Int32), M)
    ) else (
      zbd2 (f_X12_frees R M a0 x1) fun r7 M8 =>
      if x2 = 0 then (
        some (r7, M8)
      ) else (
        if 0 ≤ r7 then (
          some ((M8 a0 51), M8)
        ) else (
          some (r7, M8)
        )
      )
    )
  )
set_option maxRecDepth 4000 in
theorem ok_X12_free {G : zG} {K : zK} {R : zR} {M : zM} {L : zL} (hW : zWT R K) {a0 : Nat} {x1 : Int32} {x2 : Int32} (k_a0 : K[a0]? = some (12, 61)) {r' : Int32} {M' : zM} (h : f_X12_free R M a0 x1 x2 = some (r', M')) : Rm G mt_X12_free [.ref a0, .int x1, .int x2] (M, L, R, K) (some (.int r')) (M', L, R, K) := by
  refine rm_rn rfl rfl (Nat.le_of_ble_eq_true rfl) ?_
  show Rn G mt_X12_free 0 [(0, .ref a0), (1, .int x1), (2, .int x2)] [] (M, L, R, K) (some (.int r')) (M', L, R, K)
  unfold f_X12_free at h
  refine rn_aload_n (q := 0) 0 rfl zd_X12_free_0.1.1.1.1 ?_
  refine rn_iload_n (q := 1) 1 rfl zd_X12_free_0.1.1.1.2 ?_
  obtain ⟨r1, h2, h⟩ := zbd_e h
  refine rn_callVi (As := [.int x1]) (rest := []) zl_X12_325 zm_X12_isHouse ⟨by decide, by decide⟩ (ci := 12) rfl rfl (by decide) k_a0 rfl rfl (Nat.le_of_ble_eq_true rfl) zd_X12_free_0.1.1.2.1 (ok_X12_isHouse hW k_a0 h2) ?_
  rcases zif_e h with ⟨hc3, h⟩ | ⟨hc3, h⟩
  · refine rn_if_eq_t (tgt := 17) hc3 zd_X12_free_0.1.1.2.2 rfl ?_
    refine rn_iconst (v := -1) zd_X12_free_0.2.1.1.2 rfl ?_
    cases h
    exact rn_iret zd_X12_free_0.2.1.2.1 rfl
  · refine rn_if_eq_f (tgt := 17) hc3 zd_X12_free_0.1.1.2.2 rfl ?_
    refine rn_iload_n (q := 2) 2 rfl zd_X12_free_0.1.2.1.1 ?_
    refine rn_iconst (v := 0) zd_X12_free_0.1.2.1.2 rfl ?_
    refine rn_iconst (v := 1) zd_X12_free_0.1.2.2.1 rfl ?_
    obtain ⟨r4, h5, h⟩ := zbd_e h
    refine rn_callSi (As := [.int x2, .int (0 : Int32), .int (1 : Int32)]) (rest := []) zl_X12_276 zm_X12_in ⟨by decide, by decide⟩ rfl rfl (Nat.le_of_ble_eq_true rfl) zd_X12_free_0.1.2.2.2 (ok_X12_in hW h5) ?_
    rcases zif_e h with ⟨hc6, h⟩ | ⟨hc6, h⟩
    · refine rn_if_ne_f (tgt := 19) hc6 zd_X12_free_0.2.1.1.1 rfl ?_
      refine rn_iconst (v := -1) zd_X12_free_0.2.1.1.2 rfl ?_
      cases h
      exact rn_iret zd_X12_free_0.2.1.2.1 rfl
    · refine rn_if_ne_t (tgt := 19) hc6 zd_X12_free_0.2.1.1.1 rfl ?_
      refine rn_aload_n (q := 0) 0 rfl zd_X12_free_0.2.1.2.2 ?_
      refine rn_iload_n (q := 1) 1 rfl zd_X12_free_0.2.2.1.1 ?_
      obtain ⟨r7, M8, h9, h⟩ := zbd2_e h
      refine rn_callVi (As := [.int x1]) (rest := []) zl_X12_361 zm_X12_frees ⟨by decide, by decide⟩ (ci := 12) rfl rfl (by decide) k_a0 rfl rfl (Nat.le_of_ble_eq_true rfl) zd_X12_free_0.2.2.1.2 (ok_X12_frees hW k_a0 h9) ?_
      refine rn_istore_n (q := 3) (ls' := [(3, .int r7), (0, .ref a0), (1, .int x1), (2, .int x2)]) (by decide) rfl zd_X12_free_0.2.2.2.1 ?_
      refine rn_iload_n (q := 2) 3 rfl zd_X12_free_0.2.2.2.2 ?_
      rcases zif_e h with ⟨hc10, h⟩ | ⟨hc10, h⟩
      · refine rn_if_eq_t (tgt := 33) hc10 zd_X12_free_1.1.1.1 rfl ?_
        refine rn_iload_n (q := 3) 0 rfl zd_X12_free_1.1.2.2 ?_
        refine rn_goto (tgt := 41) zd_X12_free_1.2.1.1 rfl ?_
        cases h
        exact rn_iret zd_X12_free_1.2.2.2 rfl
      · refine rn_if_eq_f (tgt := 33) hc10 zd_X12_free_1.1.1.1 rfl ?_
        refine rn_iload_n (q := 3) 0 rfl zd_X12_free_1.1.1.2 ?_
        rcases zif_e h with ⟨hc11, h⟩ | ⟨hc11, h⟩
        · refine rn_if_ge_t (tgt := 37) hc11 zd_X12_free_1.1.2.1 rfl ?_
          refine rn_aload_n (q := 0) 1 rfl zd_X12_free_1.2.1.2 ?_
          refine rn_getI zf_X12_358 (Or.inl rfl) k_a0 zd_X12_free_1.2.2.1 ?_
          cases h
          exact rn_iret zd_X12_free_1.2.2.2 rfl
        · refine rn_if_ge_f (tgt := 37) hc11 zd_X12_free_1.1.2.1 rfl ?_
          refine rn_iload_n (q := 3) 0 rfl zd_X12_free_1.1.2.2 ?_
          refine rn_goto (tgt := 41) zd_X12_free_1.2.1.1 rfl ?_
          cases h
          exact rn_iret zd_X12_free_1.2.2.2 rfl
abbrev P_X12_best_75 (G : zG) (K : zK) (R : zR) (L : zL) (a0 : Nat) (x1 : Int32) (x2 : Int32) (x3 : Int32) (x4 : Int32) (x5 : Int32) (r : Option Value) (S' : zS) (v : Int32 × Int32 × Int32 × Int32 × zM) : Prop := Rn G mt_X12_best 75 [(0, .ref a0), (1, .int x1), (2, .int x2), (3, .int x3), (4, .int x4), (5, .int x5), (6, .int v.1), (7, .int v.2.1), (8, .int v.2.2.1), (9, .int v.2.2.2.1)] [] (v.2.2.2.2, L, R, K) r S'
abbrev Q_X12_best_75 (G : zG) (K : zK) (R : zR) (L : zL) (a0 : Nat) (x1 : Int32) (x2 : Int32) (x3 : Int32) (x4 : Int32) (x5 : Int32) (r : Option Value) (S' : zS) : (Int32 × Int32 × Int32 × zM) → Prop := (fun e => Rn G mt_X12_best 195 [(4, .int x4), (6, .int e.1), (7, .int e.2.1), (8, .int e.2.2.1)] [] (e.2.2.2, L, R, K) r S')
abbrev P_X12_best_94 (G : zG) (K : zK) (R : zR) (L : zL) (a0 : Nat) (x1 : Int32) (x2 : Int32) (x3 : Int32) (x4 : Int32) (x5 : Int32) (x9 : Int32) (r : Option Value) (S' : zS) (v : Int32 × Int32 × Int32 × Int32 × zM) : Prop := Rn G mt_X12_best 94 [(0, .ref a0), (1, .int x1), (2, .int x2), (3, .int x3), (4, .int x4), (5, .int x5), (6, .int v.1), (7, .int v.2.1), (8, .int v.2.2.1), (9, .int x9), (10, .int v.2.2.2.1)] [] (v.2.2.2.2, L, R, K) r S'
abbrev Q_X12_best_94 (G : zG) (K : zK) (R : zR) (L : zL) (a0 : Nat) (x1 : Int32) (x2 : Int32) (x3 : Int32) (x4 : Int32) (x5 : Int32) (x9 : Int32) (r : Option Value) (S' : zS) : (Int32 × Int32 × Int32 × zM) → Prop := (fun e => Rn G mt_X12_best 189 [(0, .ref a0), (1, .int x1), (2, .int x2), (3, .int x3), (4, .int x4), (5, .int x5), (6, .int e.1), (7, .int e.2.1), (8, .int e.2.2.1), (9, .int x9)] [] (e.2.2.2, L, R, K) r S')
def b_X12_best_94 (R : zR) (M : zM) (a0 : Nat) (x1 : Int32) (x2 : Int32) (x3 : Int32) (x4 : Int32) (x5 : Int32) (x6 : Int32) (x7 : Int32) (x8 : Int32) (x9 : Int32) (x10 : Int32) : Option ((Int32 × Int32 × Int32 × Int32 × zM) ⊕ ((Int32 × Int32 × Int32 × zM))) :=
  if (M (R a0 45) (ztn (40 : Int32))) ≤ x10 then (
    some (.inr (x6, x7, x8, M))
  ) else (
    if x10 = x1 then (
      some (.inl (x6, x7, x8, (x10 + 1), M))
    ) else (
      zbd (f_X12_copies R M a0) fun M24 =>
      zck (zin x1 60) <|
      zck (zin x1 60) <|
      zlt (zup M24 (R a0 46) (ztn x1) ((M24 (R a0 46) (ztn x1)) - (x9 * x2))) fun M28 =>
      zck (zin x10 60) <|
      zck (zin x10 60) <|
      zlt (zup M28 (R a0 46) (ztn x10) ((M28 (R a0 46) (ztn x10)) + (x9 * x2))) fun M31 =>
      zbd (f_X12_evenings R M31 a0 x3) fun M32 =>
      zck (zin x1 60) <|
      if x8 < (M32 (R a0 46) (ztn x1)) then (
        zck (zin x1 60) <|
        some (.inl ((x9 * x2), x10, (M32 (R a0 46) (ztn x1)), (x10 + 1), M32))
      ) else (
        some (.inl (x6, x7, x8, (x10 + 1), M32))
      )
    )
  )
set_option maxRecDepth 4000 in
theorem ok_b_X12_best_94 {G : zG} {K : zK} {R : zR} {M : zM} {L : zL} (hW : zWT R K) {a0 : Nat} {x1 : Int32} {x2 : Int32} {x3 : Int32} {x4 : Int32} {x5 : Int32} {x6 : Int32} {x7 : Int32} {x8 : Int32} {x9 : Int32} {x10 : Int32} (k_a0 : K[a0]? = some (12, 61)) {r : Option Value} {S' : zS} {x : (Int32 × Int32 × Int32 × Int32 × zM) ⊕ ((Int32 × Int32 × Int32 × zM))} (h : b_X12_best_94 R M a0 x1 x2 x3 x4 x5 x6 x7 x8 x9 x10 = some x) (hk : Sum.elim (P_X12_best_94 G K R L a0 x1 x2 x3 x4 x5 x9 r S') (Q_X12_best_94 G K R L a0 x1 x2 x3 x4 x5 x9 r S') x) : P_X12_best_94 G K R L a0 x1 x2 x3 x4 x5 x9 r S' (x6, x7, x8, x10, M) := by
  show Rn G mt_X12_best 94 [(0, .ref a0), (1, .int x1), (2, .int x2), (3, .int x3), (4, .int x4), (5, .int x5), (6, .int x6), (7, .int x7), (8, .int x8), (9, .int x9), (10, .int x10)] [] (M, L, R, K) r S'
  unfold b_X12_best_94 at h
  refine rn_iload 10 rfl zd_X12_best_3.1.1.2.2 ?_
  refine rn_aload_n (q := 0) 0 rfl zd_X12_best_3.1.2.1.1 ?_
  refine rn_getR zf_X12_101 (Or.inr ⟨_, rfl⟩) k_a0 (zx_12_45 hW k_a0) zd_X12_best_3.1.2.1.2 ?_
  refine rn_bipush (v := 40) zd_X12_best_3.1.2.2.1 rfl ?_
  refine rn_iald (zw_12_45 hW k_a0) (by decide) zd_X12_best_3.1.2.2.2 ?_
  rcases zif_e h with ⟨hc22, h⟩ | ⟨hc22, h⟩
  · refine rn_icmp_ge_t (tgt := 189) hc22 zd_X12_best_3.2.1.1.1 rfl ?_
    cases h
    exact rn_sub (ls' := [(0, .ref a0), (1, .int x1), (2, .int x2), (3, .int x3), (4, .int x4), (5, .int x5), (6, .int x6), (7, .int x7), (8, .int x8), (9, .int x9)]) [0, 1, 2, 3, 4, 5, 6, 7, 8, 9] rfl hk
  · refine rn_icmp_ge_f (tgt := 189) hc22 zd_X12_best_3.2.1.1.1 rfl ?_
    refine rn_iload 10 rfl zd_X12_best_3.2.1.1.2 ?_
    refine rn_iload_n (q := 1) 1 rfl zd_X12_best_3.2.1.2.1 ?_
    rcases zif_e h with ⟨hc23, h⟩ | ⟨hc23, h⟩
    · refine rn_icmp_ne_f (tgt := 115) hc23 zd_X12_best_3.2.1.2.2 rfl ?_
      refine rn_goto (tgt := 183) zd_X12_best_3.2.2.1.1 rfl ?_
      refine rn_iinc (v := (x10 + 1)) (ls' := [(10, .int (x10 + 1)), (0, .ref a0), (1, .int x1), (2, .int x2), (3, .int x3), (4, .int x4), (5, .int x5), (6, .int x6), (7, .int x7), (8, .int x8), (9, .int x9)]) 10 rfl rfl (by decide) rfl zd_X12_best_6.2.1.1.1 ?_
      refine rn_goto (tgt := 94) zd_X12_best_6.2.1.1.2 rfl ?_
      cases h
      exact rn_sub (ls' := [(0, .ref a0), (1, .int x1), (2, .int x2), (3, .int x3), (4, .int x4), (5, .int x5), (6, .int x6), (7, .int x7), (8, .int x8), (9, .int x9), (10, .int (x10 + 1))]) [1, 2, 3, 4, 5, 6, 7, 8, 9, 10, 0] rfl hk
    · refine rn_icmp_ne_t (tgt := 115) hc23 zd_X12_best_3.2.1.2.2 rfl ?_
      refine rn_aload_n (q := 0) 0 rfl zd_X12_best_3.2.2.1.2 ?_
      obtain ⟨M24, h25, h⟩ := zbd_e h
      refine rn_callVv (As := []) (rest := []) zl_X12_328 zm_X12_copies ⟨by decide, by decide⟩ (ci := 12) rfl rfl (by decide) k_a0 rfl rfl (Nat.le_of_ble_eq_true rfl) zd_X12_best_3.2.2.2.1 (ok_X12_copies hW k_a0 h25) ?_
      refine rn_aload_n (q := 0) 0 rfl zd_X12_best_3.2.2.2.2 ?_
      refine rn_getR zf_X12_104 (Or.inr ⟨_, rfl⟩) k_a0 (zx_12_46 hW k_a0) zd_X12_best_4.1.1.1.1 ?_
      refine rn_iload_n (q := 1) 1 rfl zd_X12_best_4.1.1.1.2 ?_
      refine rn_dup2 zd_X12_best_4.1.1.2.1 rfl rfl ?_
      obtain ⟨hc26, h⟩ := zck_e h
      refine rn_iald (zw_12_46 hW k_a0) hc26 zd_X12_best_4.1.1.2.2 ?_
      refine rn_iload 9 rfl zd_X12_best_4.1.2.1.1 ?_
      refine rn_iload_n (q := 2) 2 rfl zd_X12_best_4.1.2.1.2 ?_
      refine rn_imul zd_X12_best_4.1.2.2.1 ?_
      refine rn_isub zd_X12_best_4.1.2.2.2 ?_
      obtain ⟨hc27, h⟩ := zck_e h
      obtain ⟨M28, hM28, h⟩ := zlt_e h
      refine rn_iast hM28 (zw_12_46 hW k_a0) hc27 zd_X12_best_4.2.1.1.1 ?_
      refine rn_aload_n (q := 0) 0 rfl zd_X12_best_4.2.1.1.2 ?_
      refine rn_getR zf_X12_104 (Or.inr ⟨_, rfl⟩) k_a0 (zx_12_46 hW k_a0) zd_X12_best_4.2.1.2.1 ?_
      refine rn_iload 10 rfl zd_X12_best_4.2.1.2.2 ?_
      refine rn_dup2 zd_X12_best_4.2.2.1.1 rfl rfl ?_
      obtain ⟨hc29, h⟩ := zck_e h
      refine rn_iald (zw_12_46 hW k_a0) hc29 zd_X12_best_4.2.2.1.2 ?_
      refine rn_iload 9 rfl zd_X12_best_4.2.2.2.1 ?_
      refine rn_iload_n (q := 2) 2 rfl zd_X12_best_4.2.2.2.2 ?_
      refine rn_imul zd_X12_best_5.1.1.1.1 ?_
      refine rn_iadd zd_X12_best_5.1.1.1.2 ?_
      obtain ⟨hc30, h⟩ := zck_e h
      obtain ⟨M31, hM31, h⟩ := zlt_e h
      refine rn_iast hM31 (zw_12_46 hW k_a0) hc30 zd_X12_best_5.1.1.2.1 ?_
      refine rn_aload_n (q := 0) 0 rfl zd_X12_best_5.1.1.2.2 ?_
      refine rn_iload_n (q := 3) 3 rfl zd_X12_best_5.1.2.1.1 ?_
      obtain ⟨M32, h33, h⟩ := zbd_e h
      refine rn_callVv (As := [.int x3]) (rest := []) zl_X12_331 zm_X12_evenings ⟨by decide, by decide⟩ (ci := 12) rfl rfl (by decide) k_a0 rfl rfl (Nat.le_of_ble_eq_true rfl) zd_X12_best_5.1.2.1.2 (ok_X12_evenings hW k_a0 h33) ?_
      refine rn_aload_n (q := 0) 0 rfl zd_X12_best_5.1.2.2.1 ?_
      refine rn_getR zf_X12_104 (Or.inr ⟨_, rfl⟩) k_a0 (zx_12_46 hW k_a0) zd_X12_best_5.1.2.2.2 ?_
      refine rn_iload_n (q := 1) 1 rfl zd_X12_best_5.2.1.1.1 ?_
      obtain ⟨hc34, h⟩ := zck_e h
      refine rn_iald (zw_12_46 hW k_a0) hc34 zd_X12_best_5.2.1.1.2 ?_
      refine rn_iload 8 rfl zd_X12_best_5.2.1.2.1 ?_
      rcases zif_e h with ⟨hc35, h⟩ | ⟨hc35, h⟩
      · refine rn_icmp_gt_t (tgt := 165) hc35 zd_X12_best_5.2.1.2.2 rfl ?_
        refine rn_iload 9 rfl zd_X12_best_5.2.2.1.2 ?_
        refine rn_iload_n (q := 2) 2 rfl zd_X12_best_5.2.2.2.1 ?_
        refine rn_imul zd_X12_best_5.2.2.2.2 ?_
        refine rn_istore (ls' := [(6, .int (x9 * x2)), (0, .ref a0), (1, .int x1), (2, .int x2), (3, .int x3), (4, .int x4), (5, .int x5), (7, .int x7), (8, .int x8), (9, .int x9), (10, .int x10)]) (by decide) rfl zd_X12_best_6.1.1.1.1 ?_
        refine rn_iload 10 rfl zd_X12_best_6.1.1.1.2 ?_
        refine rn_istore (ls' := [(7, .int x10), (6, .int (x9 * x2)), (0, .ref a0), (1, .int x1), (2, .int x2), (3, .int x3), (4, .int x4), (5, .int x5), (8, .int x8), (9, .int x9), (10, .int x10)]) (by decide) rfl zd_X12_best_6.1.1.2.1 ?_
        refine rn_aload_n (q := 0) 2 rfl zd_X12_best_6.1.1.2.2 ?_
        refine rn_getR zf_X12_104 (Or.inr ⟨_, rfl⟩) k_a0 (zx_12_46 hW k_a0) zd_X12_best_6.1.2.1.1 ?_
        refine rn_iload_n (q := 1) 3 rfl zd_X12_best_6.1.2.1.2 ?_
        obtain ⟨hc36, h⟩ := zck_e h
        refine rn_iald (zw_12_46 hW k_a0) hc36 zd_X12_best_6.1.2.2.1 ?_
        refine rn_istore (ls' := [(8, .int (M32 (R a0 46) (ztn x1))), (7, .int x10), (6, .int (x9 * x2)), (0, .ref a0), (1, .int x1), (2, .int x2), (3, .int x3), (4, .int x4), (5, .int x5), (9, .int x9), (10, .int x10)]) (by decide) rfl zd_X12_best_6.1.2.2.2 ?_
        refine rn_iinc (v := (x10 + 1)) (ls' := [(10, .int (x10 + 1)), (8, .int (M32 (R a0 46) (ztn x1))), (7, .int x10), (6, .int (x9 * x2)), (0, .ref a0), (1, .int x1), (2, .int x2), (3, .int x3), (4, .int x4), (5, .int x5), (9, .int x9)]) 10 rfl rfl (by decide) rfl zd_X12_best_6.2.1.1.1 ?_
        refine rn_goto (tgt := 94) zd_X12_best_6.2.1.1.2 rfl ?_
        cases h
        exact rn_sub (ls' := [(0, .ref a0), (1, .int x1), (2, .int x2), (3, .int x3), (4, .int x4), (5, .int x5), (6, .int (x9 * x2)), (7, .int x10), (8, .int (M32 (R a0 46) (ztn x1))), (9, .int x9), (10, .int (x10 + 1))]) [4, 5, 6, 7, 8, 9, 3, 2, 1, 10, 0] rfl hk
      · refine rn_icmp_gt_f (tgt := 165) hc35 zd_X12_best_5.2.1.2.2 rfl ?_
        refine rn_goto (tgt := 183) zd_X12_best_5.2.2.1.1 rfl ?_
        refine rn_iinc (v := (x10 + 1)) (ls' := [(10, .int (x10 + 1)), (0, .ref a0), (1, .int x1), (2, .int x2), (3, .int x3), (4, .int x4), (5, .int x5), (6, .int x6), (7, .int x7), (8, .int x8), (9, .int x9)]) 10 rfl rfl (by decide) rfl zd_X12_best_6.2.1.1.1 ?_
        refine rn_goto (tgt := 94) zd_X12_best_6.2.1.1.2 rfl ?_
        cases h
        exact rn_sub (ls' := [(0, .ref a0), (1, .int x1), (2, .int x2), (3, .int x3), (4, .int x4), (5, .int x5), (6, .int x6), (7, .int x7), (8, .int x8), (9, .int x9), (10, .int (x10 + 1))]) [1, 2, 3, 4, 5, 6, 7, 8, 9, 10, 0] rfl hk
def b_X12_best_75 (R : zR) (M : zM) (a0 : Nat) (x1 : Int32) (x2 : Int32) (x3 : Int32) (x4 : Int32) (x5 : Int32) (x6 : Int32) (x7 : Int32) (x8 : Int32) (x9 : Int32) : Option ((Int32 × Int32 × Int32 × Int32 × zM) ⊕ ((Int32 × Int32 × Int32 × zM))) :=
  if (20 : Int32) < x9 then (
    some (.inr (x6, x7, x8, M))
  ) else (
    if x5 < (x9 * x2) then (
      some (.inr (x6, x7, x8, M))
    ) else (
      zbd (zloop zN (fun v => b_X12_best_94 R v.2.2.2.2 a0 x1 x2 x3 x4 x5 v.1 v.2.1 v.2.2.1 x9 v.2.2.2.1) (x6, x7, x8, (0 : Int32), M)) fun e37 =>
      some (.inl (e37.1, e37.2.1, e37.2.2.1, (x9 + 1), e37.2.2.2))
    )
  )
set_option maxRecDepth 4000 in
theorem ok_b_X12_best_75 {G : zG} {K : zK} {R : zR} {M : zM} {L : zL} (hW : zWT R K) {a0 : Nat} {x1 : Int32} {x2 : Int32} {x3 : Int32} {x4 : Int32} {x5 : Int32} {x6 : Int32} {x7 : Int32} {x8 : Int32} {x9 : Int32} (k_a0 : K[a0]? = some (12, 61)) {r : Option Value} {S' : zS} {x : (Int32 × Int32 × Int32 × Int32 × zM) ⊕ ((Int32 × Int32 × Int32 × zM))} (h : b_X12_best_75 R M a0 x1 x2 x3 x4 x5 x6 x7 x8 x9 = some x) (hk : Sum.elim (P_X12_best_75 G K R L a0 x1 x2 x3 x4 x5 r S') (Q_X12_best_75 G K R L a0 x1 x2 x3 x4 x5 r S') x) : P_X12_best_75 G K R L a0 x1 x2 x3 x4 x5 r S' (x6, x7, x8, x9, M) := by
  show Rn G mt_X12_best 75 [(0, .ref a0), (1, .int x1), (2, .int x2), (3, .int x3), (4, .int x4), (5, .int x5), (6, .int x6), (7, .int x7), (8, .int x8), (9, .int x9)] [] (M, L, R, K) r S'
  unfold b_X12_best_75 at h
  refine rn_iload 9 rfl zd_X12_best_2.2.1.1.2 ?_
  refine rn_bipush (v := 20) zd_X12_best_2.2.1.2.1 rfl ?_
  rcases zif_e h with ⟨hc20, h⟩ | ⟨hc20, h⟩
  · refine rn_icmp_gt_t (tgt := 195) hc20 zd_X12_best_2.2.1.2.2 rfl ?_
    cases h
    exact rn_sub (ls' := [(4, .int x4), (6, .int x6), (7, .int x7), (8, .int x8)]) [4, 6, 7, 8] rfl hk
  · refine rn_icmp_gt_f (tgt := 195) hc20 zd_X12_best_2.2.1.2.2 rfl ?_
    refine rn_iload 9 rfl zd_X12_best_2.2.2.1.1 ?_
    refine rn_iload_n (q := 2) 2 rfl zd_X12_best_2.2.2.1.2 ?_
    refine rn_imul zd_X12_best_2.2.2.2.1 ?_
    refine rn_iload 5 rfl zd_X12_best_2.2.2.2.2 ?_
    rcases zif_e h with ⟨hc21, h⟩ | ⟨hc21, h⟩
    · refine rn_icmp_gt_t (tgt := 195) hc21 zd_X12_best_3.1.1.1.1 rfl ?_
      cases h
      exact rn_sub (ls' := [(4, .int x4), (6, .int x6), (7, .int x7), (8, .int x8)]) [4, 6, 7, 8] rfl hk
    · refine rn_icmp_gt_f (tgt := 195) hc21 zd_X12_best_3.1.1.1.1 rfl ?_
      refine rn_iconst (v := 0) zd_X12_best_3.1.1.1.2 rfl ?_
      refine rn_istore (ls' := [(10, .int (0 : Int32)), (0, .ref a0), (1, .int x1), (2, .int x2), (3, .int x3), (4, .int x4), (5, .int x5), (6, .int x6), (7, .int x7), (8, .int x8), (9, .int x9)]) (by decide) rfl zd_X12_best_3.1.1.2.1 ?_
      obtain ⟨e37, he37, h⟩ := zbd_e h
      refine rn_sub (ls' := [(0, .ref a0), (1, .int x1), (2, .int x2), (3, .int x3), (4, .int x4), (5, .int x5), (6, .int x6), (7, .int x7), (8, .int x8), (9, .int x9), (10, .int (0 : Int32))]) [1, 2, 3, 4, 5, 6, 7, 8, 9, 10, 0] rfl (zloop_ok (P := P_X12_best_94 G K R L a0 x1 x2 x3 x4 x5 x9 r S') (Q := Q_X12_best_94 G K R L a0 x1 x2 x3 x4 x5 x9 r S') (fun v x hx hq => ok_b_X12_best_94 hW k_a0 hx hq) _ _ _ he37 ?_)
      show Rn G mt_X12_best 189 [(0, .ref a0), (1, .int x1), (2, .int x2), (3, .int x3), (4, .int x4), (5, .int x5), (6, .int e37.1), (7, .int e37.2.1), (8, .int e37.2.2.1), (9, .int x9)] [] (e37.2.2.2, L, R, K) r S'
      refine rn_iinc (v := (x9 + 1)) (ls' := [(9, .int (x9 + 1)), (0, .ref a0), (1, .int x1), (2, .int x2), (3, .int x3), (4, .int x4), (5, .int x5), (6, .int e37.1), (7, .int e37.2.1), (8, .int e37.2.2.1)]) 9 rfl rfl (by decide) rfl zd_X12_best_6.2.1.2.1 ?_
      refine rn_goto (tgt := 75) zd_X12_best_6.2.1.2.2 rfl ?_
      cases h
      exact rn_sub (ls' := [(0, .ref a0), (1, .int x1), (2, .int x2), (3, .int x3), (4, .int x4), (5, .int x5), (6, .int e37.1), (7, .int e37.2.1), (8, .int e37.2.2.1), (9, .int (x9 + 1))]) [1, 2, 3, 4, 5, 6, 7, 8, 9, 0] rfl hk
def f_X12_best (R : zR) (M : zM) (a0 : Nat) (x1 : Int32) (x2 : Int32) (x3 : Int32) (x4 : Int32) : Option (Int32 × zM) :=
  zbd (f_X12_isHouse R M a0 x1) fun r1 =>
  if r1 = 0 then (
    some ((-1 : Int32), M)
  ) else (
    zbd (f_X12_in x2 (1 : Int32) (999 : Int32)) fun r4 =>
    if r4 = 0 then (
      some ((-1 : Int32), M)
    ) else (
      zbd (f_X12_in x3 (1 : Int32) (30 : Int32)) fun r7 =>
      if r7 = 0 then (
        some ((-1 : Int32), M)
      ) else (
        zbd (f_X12_in x4 (0 : Int32) (2 : Int32)) fun r10 =>
        if r10 = 0 then (
          some ((-1 : Int32), M)
        ) else (
          zbd (f_X12_copies R M a0) fun M13 =>
          zbd (f_X12_shownOf R M13 a0 x1) fun r15 =>
          zbd (f_X12_evenings R M13 a0 x3) fun M17 =>
          zck (zin x1 60) <|
          zbd (zloop zN (fun v => b_X12_best_75 R v.2.2.2.2 a0 x1 x2 x3 x4 r15 v.1 v.2.1 v.2.2.1 v.2.2.2.1) ((0 : Int32), (-2 : Int32), (M17 (R a0 46) (ztn x1)), (1 : Int32), M17)) fun e38 =>
          if x4 = 0 then (
            some (e38.1, e38.2.2.2)
          ) else (
            if x4 = (1 : Int32) then (
              some (e38.2.1, e38.2.2.2)
            ) else (
              some (e38.2.2.1, e38.2.2.2)
            )
          )
        )
      )
    )
  )
set_option maxRecDepth 4000 in
theorem ok_X12_best {G : zG} {K : zK} {R : zR} {M : zM} {L : zL} (hW : zWT R K) {a0 : Nat} {x1 : Int32} {x2 : Int32} {x3 : Int32} {x4 : Int32} (k_a0 : K[a0]? = some (12, 61)) {r' : Int32} {M' : zM} (h : f_X12_best R M a0 x1 x2 x3 x4 = some (r', M')) : Rm G mt_X12_best [.ref a0, .int x1, .int x2, .int x3, .int x4] (M, L, R, K) (some (.int r')) (M', L, R, K) := by
  refine rm_rn rfl rfl (Nat.le_of_ble_eq_true rfl) ?_
  show Rn G mt_X12_best 0 [(0, .ref a0), (1, .int x1), (2, .int x2), (3, .int x3), (4, .int x4)] [] (M, L, R, K) (some (.int r')) (M', L, R, K)
  unfold f_X12_best at h
  refine rn_aload_n (q := 0) 0 rfl zd_X12_best_0.1.1.1.1 ?_
  refine rn_iload_n (q := 1) 1 rfl zd_X12_best_0.1.1.1.2 ?_
  obtain ⟨r1, h2, h⟩ := zbd_e h
  refine rn_callVi (As := [.int x1]) (rest := []) zl_X12_325 zm_X12_isHouse ⟨by decide, by decide⟩ (ci := 12) rfl rfl (by decide) k_a0 rfl rfl (Nat.le_of_ble_eq_true rfl) zd_X12_best_0.1.1.2.1 (ok_X12_isHouse hW k_a0 h2) ?_
  rcases zif_e h with ⟨hc3, h⟩ | ⟨hc3, h⟩
  · refine rn_if_eq_t (tgt := 39) hc3 zd_X12_best_0.1.1.2.2 rfl ?_
    refine rn_iconst (v := -1) zd_X12_best_1.1.1.2.2 rfl ?_
    cases h
    exact rn_iret zd_X12_best_1.1.2.1.1 rfl
  · refine rn_if_eq_f (tgt := 39) hc3 zd_X12_best_0.1.1.2.2 rfl ?_
    refine rn_iload_n (q := 2) 2 rfl zd_X12_best_0.1.2.1.1 ?_
    refine rn_iconst (v := 1) zd_X12_best_0.1.2.1.2 rfl ?_
    refine rn_sipush (v := 999) zd_X12_best_0.1.2.2.1 rfl ?_
    obtain ⟨r4, h5, h⟩ := zbd_e h
    refine rn_callSi (As := [.int x2, .int (1 : Int32), .int (999 : Int32)]) (rest := []) zl_X12_276 zm_X12_in ⟨by decide, by decide⟩ rfl rfl (Nat.le_of_ble_eq_true rfl) zd_X12_best_0.1.2.2.2 (ok_X12_in hW h5) ?_
    rcases zif_e h with ⟨hc6, h⟩ | ⟨hc6, h⟩
    · refine rn_if_eq_t (tgt := 39) hc6 zd_X12_best_0.2.1.1.1 rfl ?_
      refine rn_iconst (v := -1) zd_X12_best_1.1.1.2.2 rfl ?_
      cases h
      exact rn_iret zd_X12_best_1.1.2.1.1 rfl
    · refine rn_if_eq_f (tgt := 39) hc6 zd_X12_best_0.2.1.1.1 rfl ?_
      refine rn_iload_n (q := 3) 3 rfl zd_X12_best_0.2.1.1.2 ?_
      refine rn_iconst (v := 1) zd_X12_best_0.2.1.2.1 rfl ?_
      refine rn_bipush (v := 30) zd_X12_best_0.2.1.2.2 rfl ?_
      obtain ⟨r7, h8, h⟩ := zbd_e h
      refine rn_callSi (As := [.int x3, .int (1 : Int32), .int (30 : Int32)]) (rest := []) zl_X12_276 zm_X12_in ⟨by decide, by decide⟩ rfl rfl (Nat.le_of_ble_eq_true rfl) zd_X12_best_0.2.2.1.1 (ok_X12_in hW h8) ?_
      rcases zif_e h with ⟨hc9, h⟩ | ⟨hc9, h⟩
      · refine rn_if_eq_t (tgt := 39) hc9 zd_X12_best_0.2.2.1.2 rfl ?_
        refine rn_iconst (v := -1) zd_X12_best_1.1.1.2.2 rfl ?_
        cases h
        exact rn_iret zd_X12_best_1.1.2.1.1 rfl
      · refine rn_if_eq_f (tgt := 39) hc9 zd_X12_best_0.2.2.1.2 rfl ?_
        refine rn_iload 4 rfl zd_X12_best_0.2.2.2.1 ?_
        refine rn_iconst (v := 0) zd_X12_best_0.2.2.2.2 rfl ?_
        refine rn_iconst (v := 2) zd_X12_best_1.1.1.1.1 rfl ?_
        obtain ⟨r10, h11, h⟩ := zbd_e h
        refine rn_callSi (As := [.int x4, .int (0 : Int32), .int (2 : Int32)]) (rest := []) zl_X12_276 zm_X12_in ⟨by decide, by decide⟩ rfl rfl (Nat.le_of_ble_eq_true rfl) zd_X12_best_1.1.1.1.2 (ok_X12_in hW h11) ?_
        rcases zif_e h with ⟨hc12, h⟩ | ⟨hc12, h⟩
        · refine rn_if_ne_f (tgt := 41) hc12 zd_X12_best_1.1.1.2.1 rfl ?_
          refine rn_iconst (v := -1) zd_X12_best_1.1.1.2.2 rfl ?_
          cases h
          exact rn_iret zd_X12_best_1.1.2.1.1 rfl
        · refine rn_if_ne_t (tgt := 41) hc12 zd_X12_best_1.1.1.2.1 rfl ?_
          refine rn_aload_n (q := 0) 0 rfl zd_X12_best_1.1.2.1.2 ?_
          obtain ⟨M13, h14, h⟩ := zbd_e h
          refine rn_callVv (As := []) (rest := []) zl_X12_328 zm_X12_copies ⟨by decide, by decide⟩ (ci := 12) rfl rfl (by decide) k_a0 rfl rfl (Nat.le_of_ble_eq_true rfl) zd_X12_best_1.1.2.2.1 (ok_X12_copies hW k_a0 h14) ?_
          refine rn_aload_n (q := 0) 0 rfl zd_X12_best_1.1.2.2.2 ?_
          refine rn_iload_n (q := 1) 1 rfl zd_X12_best_1.2.1.1.1 ?_
          obtain ⟨r15, h16, h⟩ := zbd_e h
          refine rn_callVi (As := [.int x1]) (rest := []) zl_X12_280 zm_X12_shownOf ⟨by decide, by decide⟩ (ci := 12) rfl rfl (by decide) k_a0 rfl rfl (Nat.le_of_ble_eq_true rfl) zd_X12_best_1.2.1.1.2 (ok_X12_shownOf hW k_a0 h16) ?_
          refine rn_istore (ls' := [(5, .int r15), (0, .ref a0), (1, .int x1), (2, .int x2), (3, .int x3), (4, .int x4)]) (by decide) rfl zd_X12_best_1.2.1.2.1 ?_
          refine rn_aload_n (q := 0) 1 rfl zd_X12_best_1.2.1.2.2 ?_
          refine rn_iload_n (q := 3) 4 rfl zd_X12_best_1.2.2.1.1 ?_
          obtain ⟨M17, h18, h⟩ := zbd_e h
          refine rn_callVv (As := [.int x3]) (rest := []) zl_X12_331 zm_X12_evenings ⟨by decide, by decide⟩ (ci := 12) rfl rfl (by decide) k_a0 rfl rfl (Nat.le_of_ble_eq_true rfl) zd_X12_best_1.2.2.1.2 (ok_X12_evenings hW k_a0 h18) ?_
          refine rn_iconst (v := 0) zd_X12_best_1.2.2.2.1 rfl ?_
          refine rn_istore (ls' := [(6, .int (0 : Int32)), (5, .int r15), (0, .ref a0), (1, .int x1), (2, .int x2), (3, .int x3), (4, .int x4)]) (by decide) rfl zd_X12_best_1.2.2.2.2 ?_
          refine rn_bipush (v := -2) zd_X12_best_2.1.1.1.1 rfl ?_
          refine rn_istore (ls' := [(7, .int (-2 : Int32)), (6, .int (0 : Int32)), (5, .int r15), (0, .ref a0), (1, .int x1), (2, .int x2), (3, .int x3), (4, .int x4)]) (by decide) rfl zd_X12_best_2.1.1.1.2 ?_
          refine rn_aload_n (q := 0) 3 rfl zd_X12_best_2.1.1.2.1 ?_
          refine rn_getR zf_X12_104 (Or.inr ⟨_, rfl⟩) k_a0 (zx_12_46 hW k_a0) zd_X12_best_2.1.1.2.2 ?_
          refine rn_iload_n (q := 1) 4 rfl zd_X12_best_2.1.2.1.1 ?_
          obtain ⟨hc19, h⟩ := zck_e h
          refine rn_iald (zw_12_46 hW k_a0) hc19 zd_X12_best_2.1.2.1.2 ?_
          refine rn_istore (ls' := [(8, .int (M17 (R a0 46) (ztn x1))), (7, .int (-2 : Int32)), (6, .int (0 : Int32)), (5, .int r15), (0, .ref a0), (1, .int x1), (2, .int x2), (3, .int x3), (4, .int x4)]) (by decide) rfl zd_X12_best_2.1.2.2.1 ?_
          refine rn_iconst (v := 1) zd_X12_best_2.1.2.2.2 rfl ?_
          refine rn_istore (ls' := [(9, .int (1 : Int32)), (8, .int (M17 (R a0 46) (ztn x1))), (7, .int (-2 : Int32)), (6, .int (0 : Int32)), (5, .int r15), (0, .ref a0), (1, .int x1), (2, .int x2), (3, .int x3), (4, .int x4)]) (by decide) rfl zd_X12_best_2.2.1.1.1 ?_
          obtain ⟨e38, he38, h⟩ := zbd_e h
          refine rn_sub (ls' := [(0, .ref a0), (1, .int x1), (2, .int x2), (3, .int x3), (4, .int x4), (5, .int r15), (6, .int (0 : Int32)), (7, .int (-2 : Int32)), (8, .int (M17 (R a0 46) (ztn x1))), (9, .int (1 : Int32))]) [5, 6, 7, 8, 9, 4, 3, 2, 1, 0] rfl (zloop_ok (P := P_X12_best_75 G K R L a0 x1 x2 x3 x4 r15 (some (.int r')) (M', L, R, K)) (Q := Q_X12_best_75 G K R L a0 x1 x2 x3 x4 r15 (some (.int r')) (M', L, R, K)) (fun v x hx hq => ok_b_X12_best_75 hW k_a0 hx hq) _ _ _ he38 ?_)
          show Rn G mt_X12_best 195 [(4, .int x4), (6, .int e38.1), (7, .int e38.2.1), (8, .int e38.2.2.1)] [] (e38.2.2.2, L, R, K) (some (.int r')) (M', L, R, K)
          refine rn_iload 0 rfl zd_X12_best_6.2.2.1.1 ?_
          rcases zif_e h with ⟨hc39, h⟩ | ⟨hc39, h⟩
          · refine rn_if_ne_f (tgt := 205) hc39 zd_X12_best_6.2.2.1.2 rfl ?_
            refine rn_iload 1 rfl zd_X12_best_6.2.2.2.1 ?_
            refine rn_goto (tgt := 218) zd_X12_best_6.2.2.2.2 rfl ?_
            cases h
            exact rn_iret zd_X12_best_7.2.2.2 rfl
          · refine rn_if_ne_t (tgt := 205) hc39 zd_X12_best_6.2.2.1.2 rfl ?_
            refine rn_iload 0 rfl zd_X12_best_7.1.1 ?_
            refine rn_iconst (v := 1) zd_X12_best_7.1.2.1 rfl ?_
            rcases zif_e h with ⟨hc40, h⟩ | ⟨hc40, h⟩
            · refine rn_icmp_ne_f (tgt := 216) hc40 zd_X12_best_7.1.2.2 rfl ?_
              refine rn_iload 2 rfl zd_X12_best_7.2.1.1 ?_
              refine rn_goto (tgt := 218) zd_X12_best_7.2.1.2 rfl ?_
              cases h
              exact rn_iret zd_X12_best_7.2.2.2 rfl
            · refine rn_icmp_ne_t (tgt := 216) hc40 zd_X12_best_7.1.2.2 rfl ?_
              refine rn_iload 3 rfl zd_X12_best_7.2.2.1 ?_
              cases h
              exact rn_iret zd_X12_best_7.2.2.2 rfl
def j_X12_loan_114 (R : zR) (M : zM) (a0 : Nat) (x1 : Int32) (x2 : Int32) (x4 : Int32) (x5 : Int32) (x6 : Int32) (s0 : Int32) : Option (Int32 × zM) :=
  if x4 = 0 then (
    zck (zin x1 60) <|
    some (((x5 - (M (R a0 46) (ztn x1))) - s0), M)
  ) else (
    zck (zin x2 60) <|
    some ((((M (R a0 46) (ztn x2)) - s0) - x6), M)
  )
set_option maxRecDepth 4000 in
theorem ok_j_X12_loan_114 {G : zG} {K : zK} {R : zR} {M : zM} {L : zL} (hW : zWT R K) {a0 : Nat} {x1 : Int32} {x2 : Int32} {x4 : Int32} {x5 : Int32} {x6 : Int32} {s0 : Int32} (k_a0 : K[a0]? = some (12, 61)) {r' : Int32} {M' : zM} (h : j_X12_loan_114 R M a0 x1 x2 x4 x5 x6 s0 = some (r', M')) : Rn G mt_X12_loan 114 [(0, .ref a0), (1, .int x1), (2, .int x2), (4, .int x4), (5, .int x5), (6, .int x6)] [.int s0] (M, L, R, K) (some (.int r')) (M', L, R, K) := by
  unfold j_X12_loan_114 at h
  refine rn_istore (ls' := [(7, .int s0), (0, .ref a0), (1, .int x1), (2, .int x2), (4, .int x4), (5, .int x5), (6, .int x6)]) (by decide) rfl zd_X12_loan_4.1.2.1.1 ?_
  refine rn_iload 4 rfl zd_X12_loan_4.1.2.1.2 ?_
  rcases zif_e h with ⟨hc34, h⟩ | ⟨hc34, h⟩
  · refine rn_if_eq_t (tgt := 136) hc34 zd_X12_loan_4.1.2.2.1 rfl ?_
    refine rn_iload 5 rfl zd_X12_loan_5.1.1.1 ?_
    refine rn_aload_n (q := 0) 1 rfl zd_X12_loan_5.1.1.2 ?_
    refine rn_getR zf_X12_104 (Or.inr ⟨_, rfl⟩) k_a0 (zx_12_46 hW k_a0) zd_X12_loan_5.1.2.1 ?_
    refine rn_iload_n (q := 1) 2 rfl zd_X12_loan_5.1.2.2 ?_
    obtain ⟨hc35, h⟩ := zck_e h
    refine rn_iald (zw_12_46 hW k_a0) hc35 zd_X12_loan_5.2.1.1 ?_
    refine rn_isub zd_X12_loan_5.2.1.2 ?_
    refine rn_iload 0 rfl zd_X12_loan_5.2.2.1 ?_
    refine rn_isub zd_X12_loan_5.2.2.2.1 ?_
    cases h
    exact rn_iret zd_X12_loan_5.2.2.2.2 rfl
  · refine rn_if_eq_f (tgt := 136) hc34 zd_X12_loan_4.1.2.2.1 rfl ?_
    refine rn_aload_n (q := 0) 1 rfl zd_X12_loan_4.1.2.2.2 ?_
    refine rn_getR zf_X12_104 (Or.inr ⟨_, rfl⟩) k_a0 (zx_12_46 hW k_a0) zd_X12_loan_4.2.1.1.1 ?_
    refine rn_iload_n (q := 2) 3 rfl zd_X12_loan_4.2.1.1.2 ?_
    obtain ⟨hc36, h⟩ := zck_e h
    refine rn_iald (zw_12_46 hW k_a0) hc36 zd_X12_loan_4.2.1.2.1 ?_
    refine rn_iload 0 rfl zd_X12_loan_4.2.1.2.2 ?_
    refine rn_isub zd_X12_loan_4.2.2.1.1 ?_
    refine rn_iload 6 rfl zd_X12_loan_4.2.2.1.2 ?_
    refine rn_isub zd_X12_loan_4.2.2.2.1 ?_
    refine rn_goto (tgt := 148) zd_X12_loan_4.2.2.2.2 rfl ?_
    cases h
    exact rn_iret zd_X12_loan_5.2.2.2.2 rfl
def f_X12_loan (R : zR) (M : zM) (a0 : Nat) (x1 : Int32) (x2 : Int32) (x3 : Int32) (x4 : Int32) : Option (Int32 × zM) :=
  zbd (f_X12_isHouse R M a0 x1) fun r1 =>
  if r1 = 0 then (
    some ((-1000000 : Int32), M)
  ) else (
    zbd (f_X12_isHouse R M a0 x2) fun r4 =>
    if r4 = 0 then (
      some ((-1000000 : Int32), M)
    ) else (
      if x1 = x2 then (
        some ((-1000000 : Int32), M)
      ) else (
        zbd (f_X12_copies R M a0) fun M8 =>
        zbd (f_X12_shownOf R M8 a0 x1) fun r10 =>
        zbd (f_X12_in x3 (1 : Int32) r10) fun r12 =>
        if r12 = 0 then (
          some ((-1000000 : Int32), M8)
        ) else (
          zbd (f_X12_evenings R M8 a0 (1 : Int32)) fun M15 =>
          zck (zin x1 60) <|
          zck (zin x2 60) <|
          zbd (f_X12_copies R M15 a0) fun M19 =>
          zck (zin x1 60) <|
          zck (zin x1 60) <|
          zlt (zup M19 (R a0 46) (ztn x1) ((M19 (R a0 46) (ztn x1)) - x3)) fun M23 =>
          zck (zin x2 60) <|
          zck (zin x2 60) <|
          zlt (zup M23 (R a0 46) (ztn x2) ((M23 (R a0 46) (ztn x2)) + x3)) fun M26 =>
          zbd (f_X12_evenings R M26 a0 (1 : Int32)) fun M27 =>
          zbd (f_X12_shownOf R M27 a0 x2) fun r29 =>
          if r29 ≤ x3 then (
            zbd (f_X12_shownOf R M27 a0 x2) fun r32 =>
            j_X12_loan_114 R M27 a0 x1 x2 x4 (M15 (R a0 46) (ztn x1)) (M15 (R a0 46) (ztn x2)) r32
          ) else (
            j_X12_loan_114 R M27 a0 x1 x2 x4 (M15 (R a0 46) (ztn x1)) (M15 (R a0 46) (ztn x2)) x3
          )
        )
      )
    )
  )
set_option maxRecDepth 4000 in
theorem ok_X12_loan {G : zG} {K : zK} {R : zR} {M : zM} {L : zL} (hW : zWT R K) {a0 : Nat} {x1 : Int32} {x2 : Int32} {x3 : Int32} {x4 : Int32} (k_a0 : K[a0]? = some (12, 61)) {r' : Int32} {M' : zM} (h : f_X12_loan R M a0 x1 x2 x3 x4 = some (r', M')) : Rm G mt_X12_loan [.ref a0, .int x1, .int x2, .int x3, .int x4] (M, L, R, K) (some (.int r')) (M', L, R, K) := by
  refine rm_rn rfl rfl (Nat.le_of_ble_eq_true rfl) ?_
  show Rn G mt_X12_loan 0 [(0, .ref a0), (1, .int x1), (2, .int x2), (3, .int x3), (4, .int x4)] [] (M, L, R, K) (some (.int r')) (M', L, R, K)
  unfold f_X12_loan at h
  refine rn_aload_n (q := 0) 0 rfl zd_X12_loan_0.1.1.1.1 ?_
  refine rn_iload_n (q := 1) 1 rfl zd_X12_loan_0.1.1.1.2 ?_
  obtain ⟨r1, h2, h⟩ := zbd_e h
  refine rn_callVi (As := [.int x1]) (rest := []) zl_X12_325 zm_X12_isHouse ⟨by decide, by decide⟩ (ci := 12) rfl rfl (by decide) k_a0 rfl rfl (Nat.le_of_ble_eq_true rfl) zd_X12_loan_0.1.1.2.1 (ok_X12_isHouse hW k_a0 h2) ?_
  rcases zif_e h with ⟨hc3, h⟩ | ⟨hc3, h⟩
  · refine rn_if_eq_t (tgt := 21) hc3 zd_X12_loan_0.1.1.2.2 rfl ?_
    refine rn_ldcw (v := -1000000) zk_X12_354 zd_X12_loan_0.2.1.2.2 ?_
    cases h
    exact rn_iret zd_X12_loan_0.2.2.1.1 rfl
  · refine rn_if_eq_f (tgt := 21) hc3 zd_X12_loan_0.1.1.2.2 rfl ?_
    refine rn_aload_n (q := 0) 0 rfl zd_X12_loan_0.1.2.1.1 ?_
    refine rn_iload_n (q := 2) 2 rfl zd_X12_loan_0.1.2.1.2 ?_
    obtain ⟨r4, h5, h⟩ := zbd_e h
    refine rn_callVi (As := [.int x2]) (rest := []) zl_X12_325 zm_X12_isHouse ⟨by decide, by decide⟩ (ci := 12) rfl rfl (by decide) k_a0 rfl rfl (Nat.le_of_ble_eq_true rfl) zd_X12_loan_0.1.2.2.1 (ok_X12_isHouse hW k_a0 h5) ?_
    rcases zif_e h with ⟨hc6, h⟩ | ⟨hc6, h⟩
    · refine rn_if_eq_t (tgt := 21) hc6 zd_X12_loan_0.1.2.2.2 rfl ?_
      refine rn_ldcw (v := -1000000) zk_X12_354 zd_X12_loan_0.2.1.2.2 ?_
      cases h
      exact rn_iret zd_X12_loan_0.2.2.1.1 rfl
    · refine rn_if_eq_f (tgt := 21) hc6 zd_X12_loan_0.1.2.2.2 rfl ?_
      refine rn_iload_n (q := 1) 1 rfl zd_X12_loan_0.2.1.1.1 ?_
      refine rn_iload_n (q := 2) 2 rfl zd_X12_loan_0.2.1.1.2 ?_
      rcases zif_e h with ⟨hc7, h⟩ | ⟨hc7, h⟩
      · refine rn_icmp_ne_f (tgt := 25) hc7 zd_X12_loan_0.2.1.2.1 rfl ?_
        refine rn_ldcw (v := -1000000) zk_X12_354 zd_X12_loan_0.2.1.2.2 ?_
        cases h
        exact rn_iret zd_X12_loan_0.2.2.1.1 rfl
      · refine rn_icmp_ne_t (tgt := 25) hc7 zd_X12_loan_0.2.1.2.1 rfl ?_
        refine rn_aload_n (q := 0) 0 rfl zd_X12_loan_0.2.2.1.2 ?_
        obtain ⟨M8, h9, h⟩ := zbd_e h
        refine rn_callVv (As := []) (rest := []) zl_X12_328 zm_X12_copies ⟨by decide, by decide⟩ (ci := 12) rfl rfl (by decide) k_a0 rfl rfl (Nat.le_of_ble_eq_true rfl) zd_X12_loan_0.2.2.2.1 (ok_X12_copies hW k_a0 h9) ?_
        refine rn_iload_n (q := 3) 3 rfl zd_X12_loan_0.2.2.2.2 ?_
        refine rn_iconst (v := 1) zd_X12_loan_1.1.1.1.1 rfl ?_
        refine rn_aload_n (q := 0) 0 rfl zd_X12_loan_1.1.1.1.2 ?_
        refine rn_iload_n (q := 1) 1 rfl zd_X12_loan_1.1.1.2.1 ?_
        obtain ⟨r10, h11, h⟩ := zbd_e h
        refine rn_callVi (As := [.int x1]) (rest := [.int (1 : Int32), .int x3]) zl_X12_280 zm_X12_shownOf ⟨by decide, by decide⟩ (ci := 12) rfl rfl (by decide) k_a0 rfl rfl (Nat.le_of_ble_eq_true rfl) zd_X12_loan_1.1.1.2.2 (ok_X12_shownOf hW k_a0 h11) ?_
        obtain ⟨r12, h13, h⟩ := zbd_e h
        refine rn_callSi (As := [.int x3, .int (1 : Int32), .int r10]) (rest := []) zl_X12_276 zm_X12_in ⟨by decide, by decide⟩ rfl rfl (Nat.le_of_ble_eq_true rfl) zd_X12_loan_1.1.2.1.1 (ok_X12_in hW h13) ?_
        rcases zif_e h with ⟨hc14, h⟩ | ⟨hc14, h⟩
        · refine rn_if_ne_f (tgt := 46) hc14 zd_X12_loan_1.1.2.1.2 rfl ?_
          refine rn_ldcw (v := -1000000) zk_X12_354 zd_X12_loan_1.1.2.2.1 ?_
          cases h
          exact rn_iret zd_X12_loan_1.1.2.2.2 rfl
        · refine rn_if_ne_t (tgt := 46) hc14 zd_X12_loan_1.1.2.1.2 rfl ?_
          refine rn_aload_n (q := 0) 0 rfl zd_X12_loan_1.2.1.1.1 ?_
          refine rn_iconst (v := 1) zd_X12_loan_1.2.1.1.2 rfl ?_
          obtain ⟨M15, h16, h⟩ := zbd_e h
          refine rn_callVv (As := [.int (1 : Int32)]) (rest := []) zl_X12_331 zm_X12_evenings ⟨by decide, by decide⟩ (ci := 12) rfl rfl (by decide) k_a0 rfl rfl (Nat.le_of_ble_eq_true rfl) zd_X12_loan_1.2.1.2.1 (ok_X12_evenings hW k_a0 h16) ?_
          refine rn_aload_n (q := 0) 0 rfl zd_X12_loan_1.2.1.2.2 ?_
          refine rn_getR zf_X12_104 (Or.inr ⟨_, rfl⟩) k_a0 (zx_12_46 hW k_a0) zd_X12_loan_1.2.2.1.1 ?_
          refine rn_iload_n (q := 1) 1 rfl zd_X12_loan_1.2.2.1.2 ?_
          obtain ⟨hc17, h⟩ := zck_e h
          refine rn_iald (zw_12_46 hW k_a0) hc17 zd_X12_loan_1.2.2.2.1 ?_
          refine rn_istore (ls' := [(5, .int (M15 (R a0 46) (ztn x1))), (0, .ref a0), (1, .int x1), (2, .int x2), (3, .int x3), (4, .int x4)]) (by decide) rfl zd_X12_loan_1.2.2.2.2 ?_
          refine rn_aload_n (q := 0) 1 rfl zd_X12_loan_2.1.1.1.1 ?_
          refine rn_getR zf_X12_104 (Or.inr ⟨_, rfl⟩) k_a0 (zx_12_46 hW k_a0) zd_X12_loan_2.1.1.1.2 ?_
          refine rn_iload_n (q := 2) 3 rfl zd_X12_loan_2.1.1.2.1 ?_
          obtain ⟨hc18, h⟩ := zck_e h
          refine rn_iald (zw_12_46 hW k_a0) hc18 zd_X12_loan_2.1.1.2.2 ?_
          refine rn_istore (ls' := [(6, .int (M15 (R a0 46) (ztn x2))), (5, .int (M15 (R a0 46) (ztn x1))), (0, .ref a0), (1, .int x1), (2, .int x2), (3, .int x3), (4, .int x4)]) (by decide) rfl zd_X12_loan_2.1.2.1.1 ?_
          refine rn_aload_n (q := 0) 2 rfl zd_X12_loan_2.1.2.1.2 ?_
          obtain ⟨M19, h20, h⟩ := zbd_e h
          refine rn_callVv (As := []) (rest := []) zl_X12_328 zm_X12_copies ⟨by decide, by decide⟩ (ci := 12) rfl rfl (by decide) k_a0 rfl rfl (Nat.le_of_ble_eq_true rfl) zd_X12_loan_2.1.2.2.1 (ok_X12_copies hW k_a0 h20) ?_
          refine rn_aload_n (q := 0) 2 rfl zd_X12_loan_2.1.2.2.2 ?_
          refine rn_getR zf_X12_104 (Or.inr ⟨_, rfl⟩) k_a0 (zx_12_46 hW k_a0) zd_X12_loan_2.2.1.1.1 ?_
          refine rn_iload_n (q := 1) 3 rfl zd_X12_loan_2.2.1.1.2 ?_
          refine rn_dup2 zd_X12_loan_2.2.1.2.1 rfl rfl ?_
          obtain ⟨hc21, h⟩ := zck_e h
          refine rn_iald (zw_12_46 hW k_a0) hc21 zd_X12_loan_2.2.1.2.2 ?_
          refine rn_iload_n (q := 3) 5 rfl zd_X12_loan_2.2.2.1.1 ?_
          refine rn_isub zd_X12_loan_2.2.2.1.2 ?_
          obtain ⟨hc22, h⟩ := zck_e h
          obtain ⟨M23, hM23, h⟩ := zlt_e h
          refine rn_iast hM23 (zw_12_46 hW k_a0) hc22 zd_X12_loan_2.2.2.2.1 ?_
          refine rn_aload_n (q := 0) 2 rfl zd_X12_loan_2.2.2.2.2 ?_
          refine rn_getR zf_X12_104 (Or.inr ⟨_, rfl⟩) k_a0 (zx_12_46 hW k_a0) zd_X12_loan_3.1.1.1.1 ?_
          refine rn_iload_n (q := 2) 4 rfl zd_X12_loan_3.1.1.1.2 ?_
          refine rn_dup2 zd_X12_loan_3.1.1.2.1 rfl rfl ?_
          obtain ⟨hc24, h⟩ := zck_e h
          refine rn_iald (zw_12_46 hW k_a0) hc24 zd_X12_loan_3.1.1.2.2 ?_
          refine rn_iload_n (q := 3) 5 rfl zd_X12_loan_3.1.2.1.1 ?_
          refine rn_iadd zd_X12_loan_3.1.2.1.2 ?_
          obtain ⟨hc25, h⟩ := zck_e h
          obtain ⟨M26, hM26, h⟩ := zlt_e h
          refine rn_iast hM26 (zw_12_46 hW k_a0) hc25 zd_X12_loan_3.1.2.2.1 ?_
          refine rn_aload_n (q := 0) 2 rfl zd_X12_loan_3.1.2.2.2 ?_
          refine rn_iconst (v := 1) zd_X12_loan_3.2.1.1.1 rfl ?_
          obtain ⟨M27, h28, h⟩ := zbd_e h
          refine rn_callVv (As := [.int (1 : Int32)]) (rest := []) zl_X12_331 zm_X12_evenings ⟨by decide, by decide⟩ (ci := 12) rfl rfl (by decide) k_a0 rfl rfl (Nat.le_of_ble_eq_true rfl) zd_X12_loan_3.2.1.1.2 (ok_X12_evenings hW k_a0 h28) ?_
          refine rn_iload_n (q := 3) 5 rfl zd_X12_loan_3.2.1.2.1 ?_
          refine rn_aload_n (q := 0) 2 rfl zd_X12_loan_3.2.1.2.2 ?_
          refine rn_iload_n (q := 2) 4 rfl zd_X12_loan_3.2.2.1.1 ?_
          obtain ⟨r29, h30, h⟩ := zbd_e h
          refine rn_callVi (As := [.int x2]) (rest := [.int x3]) zl_X12_280 zm_X12_shownOf ⟨by decide, by decide⟩ (ci := 12) rfl rfl (by decide) k_a0 rfl rfl (Nat.le_of_ble_eq_true rfl) zd_X12_loan_3.2.2.1.2 (ok_X12_shownOf hW k_a0 h30) ?_
          rcases zif_e h with ⟨hc31, h⟩ | ⟨hc31, h⟩
          · refine rn_icmp_ge_t (tgt := 109) hc31 zd_X12_loan_3.2.2.2.1 rfl ?_
            refine rn_aload_n (q := 0) 2 rfl zd_X12_loan_4.1.1.1.2 ?_
            refine rn_iload_n (q := 2) 4 rfl zd_X12_loan_4.1.1.2.1 ?_
            obtain ⟨r32, h33, h⟩ := zbd_e h
            refine rn_callVi (As := [.int x2]) (rest := []) zl_X12_280 zm_X12_shownOf ⟨by decide, by decide⟩ (ci := 12) rfl rfl (by decide) k_a0 rfl rfl (Nat.le_of_ble_eq_true rfl) zd_X12_loan_4.1.1.2.2 (ok_X12_shownOf hW k_a0 h33) ?_
            exact rn_sub (ls' := [(0, .ref a0), (1, .int x1), (2, .int x2), (4, .int x4), (5, .int (M15 (R a0 46) (ztn x1))), (6, .int (M15 (R a0 46) (ztn x2)))]) [2, 3, 4, 6, 1, 0] rfl (ok_j_X12_loan_114 hW k_a0 h)
          · refine rn_icmp_ge_f (tgt := 109) hc31 zd_X12_loan_3.2.2.2.1 rfl ?_
            refine rn_iload_n (q := 3) 5 rfl zd_X12_loan_3.2.2.2.2 ?_
            refine rn_goto (tgt := 114) zd_X12_loan_4.1.1.1.1 rfl ?_
            exact rn_sub (ls' := [(0, .ref a0), (1, .int x1), (2, .int x2), (4, .int x4), (5, .int (M15 (R a0 46) (ztn x1))), (6, .int (M15 (R a0 46) (ztn x2)))]) [2, 3, 4, 6, 1, 0] rfl (ok_j_X12_loan_114 hW k_a0 h)
abbrev P_X12_site_35 (G : zG) (K : zK) (R : zR) (L : zL) (a0 : Nat) (x1 : Int32) (r : Option Value) (S' : zS) (v : Int32 × Int32 × Int32 × zM) : Prop := Rn G mt_X12_site 35 [(0, .ref a0), (1, .int x1), (2, .int v.1), (3, .int v.2.1), (4, .int v.2.2.1)] [] (v.2.2.2, L, R, K) r S'
abbrev Q_X12_site_35 (G : zG) (K : zK) (R : zR) (L : zL) (a0 : Nat) (x1 : Int32) (r : Option Value) (S' : zS) : (Int32 × zM) → Prop := (fun e => Rn G mt_X12_site 118 [(2, .int e.1)] [] (e.2, L, R, K) r S')
abbrev P_X12_site_64 (G : zG) (K : zK) (R : zR) (L : zL) (a0 : Nat) (x1 : Int32) (x2 : Int32) (x3 : Int32) (x4 : Int32) (r : Option Value) (S' : zS) (v : Int32 × Int32 × zM) : Prop := Rn G mt_X12_site 64 [(0, .ref a0), (1, .int x1), (2, .int x2), (3, .int x3), (4, .int x4), (5, .int v.1), (6, .int v.2.1)] [] (v.2.2, L, R, K) r S'
abbrev Q_X12_site_64 (G : zG) (K : zK) (R : zR) (L : zL) (a0 : Nat) (x1 : Int32) (x2 : Int32) (x3 : Int32) (x4 : Int32) (r : Option Value) (S' : zS) : (Int32 × zM) → Prop := (fun e => Rn G mt_X12_site 93 [(0, .ref a0), (1, .int x1), (2, .int x2), (3, .int x3), (4, .int x4), (5, .int e.1)] [] (e.2, L, R, K) r S')
def b_X12_site_64 (R : zR) (M : zM) (a0 : Nat) (x1 : Int32) (x2 : Int32) (x3 : Int32) (x4 : Int32) (x5 : Int32) (x6 : Int32) : Option ((Int32 × Int32 × zM) ⊕ ((Int32 × zM))) :=
  if (M (R a0 46) (ztn (40 : Int32))) ≤ x6 then (
    some (.inr (x5, M))
  ) else (
    zbd2 (f_X12_wanted R M a0 x6) fun r11 M12 =>
    some (.inl ((x5 + r11), (x6 + 1), M12))
  )
set_option maxRecDepth 4000 in
theorem ok_b_X12_site_64 {G : zG} {K : zK} {R : zR} {M : zM} {L : zL} (hW : zWT R K) {a0 : Nat} {x1 : Int32} {x2 : Int32} {x3 : Int32} {x4 : Int32} {x5 : Int32} {x6 : Int32} (k_a0 : K[a0]? = some (12, 61)) {r : Option Value} {S' : zS} {x : (Int32 × Int32 × zM) ⊕ ((Int32 × zM))} (h : b_X12_site_64 R M a0 x1 x2 x3 x4 x5 x6 = some x) (hk : Sum.elim (P_X12_site_64 G K R L a0 x1 x2 x3 x4 r S') (Q_X12_site_64 G K R L a0 x1 x2 x3 x4 r S') x) : P_X12_site_64 G K R L a0 x1 x2 x3 x4 r S' (x5, x6, M) := by
  show Rn G mt_X12_site 64 [(0, .ref a0), (1, .int x1), (2, .int x2), (3, .int x3), (4, .int x4), (5, .int x5), (6, .int x6)] [] (M, L, R, K) r S'
  unfold b_X12_site_64 at h
  refine rn_iload 6 rfl zd_X12_site_2.1.2.1.2 ?_
  refine rn_aload_n (q := 0) 0 rfl zd_X12_site_2.1.2.2.1 ?_
  refine rn_getR zf_X12_104 (Or.inr ⟨_, rfl⟩) k_a0 (zx_12_46 hW k_a0) zd_X12_site_2.1.2.2.2 ?_
  refine rn_bipush (v := 40) zd_X12_site_2.2.1.1.1 rfl ?_
  refine rn_iald (zw_12_46 hW k_a0) (by decide) zd_X12_site_2.2.1.1.2 ?_
  rcases zif_e h with ⟨hc10, h⟩ | ⟨hc10, h⟩
  · refine rn_icmp_ge_t (tgt := 93) hc10 zd_X12_site_2.2.1.2.1 rfl ?_
    cases h
    exact rn_sub (ls' := [(0, .ref a0), (1, .int x1), (2, .int x2), (3, .int x3), (4, .int x4), (5, .int x5)]) [0, 1, 2, 3, 4, 5] rfl hk
  · refine rn_icmp_ge_f (tgt := 93) hc10 zd_X12_site_2.2.1.2.1 rfl ?_
    refine rn_iload 5 rfl zd_X12_site_2.2.1.2.2 ?_
    refine rn_aload_n (q := 0) 0 rfl zd_X12_site_2.2.2.1.1 ?_
    refine rn_iload 6 rfl zd_X12_site_2.2.2.1.2 ?_
    obtain ⟨r11, M12, h13, h⟩ := zbd2_e h
    refine rn_callVi (As := [.int x6]) (rest := [.int x5]) zl_X12_303 zm_X12_wanted ⟨by decide, by decide⟩ (ci := 12) rfl rfl (by decide) k_a0 rfl rfl (Nat.le_of_ble_eq_true rfl) zd_X12_site_2.2.2.2.1 (ok_X12_wanted hW k_a0 h13) ?_
    refine rn_iadd zd_X12_site_2.2.2.2.2 ?_
    refine rn_istore (ls' := [(5, .int (x5 + r11)), (0, .ref a0), (1, .int x1), (2, .int x2), (3, .int x3), (4, .int x4), (6, .int x6)]) (by decide) rfl zd_X12_site_3.1.1.1.1 ?_
    refine rn_iinc (v := (x6 + 1)) (ls' := [(6, .int (x6 + 1)), (5, .int (x5 + r11)), (0, .ref a0), (1, .int x1), (2, .int x2), (3, .int x3), (4, .int x4)]) 6 rfl rfl (by decide) rfl zd_X12_site_3.1.1.1.2 ?_
    refine rn_goto (tgt := 64) zd_X12_site_3.1.1.2.1 rfl ?_
    cases h
    exact rn_sub (ls' := [(0, .ref a0), (1, .int x1), (2, .int x2), (3, .int x3), (4, .int x4), (5, .int (x5 + r11)), (6, .int (x6 + 1))]) [2, 3, 4, 5, 6, 1, 0] rfl hk
def j_X12_site_106 (R : zR) (M : zM) (a0 : Nat) (x1 : Int32) (x4 : Int32) (x5 : Int32) : Option ((Int32 × Int32 × Int32 × zM) ⊕ ((Int32 × zM))) :=
  some (.inl (x4, x5, (x4 + 1), M))
set_option maxRecDepth 4000 in
theorem ok_j_X12_site_106 {G : zG} {K : zK} {R : zR} {M : zM} {L : zL} (hW : zWT R K) {a0 : Nat} {x1 : Int32} {x4 : Int32} {x5 : Int32} (k_a0 : K[a0]? = some (12, 61)) {r : Option Value} {S' : zS} {x : (Int32 × Int32 × Int32 × zM) ⊕ ((Int32 × zM))} (h : j_X12_site_106 R M a0 x1 x4 x5 = some x) (hk : Sum.elim (P_X12_site_35 G K R L a0 x1 r S') (Q_X12_site_35 G K R L a0 x1 r S') x) : Rn G mt_X12_site 106 [(0, .ref a0), (1, .int x1), (4, .int x4), (5, .int x5)] [] (M, L, R, K) r S' := by
  unfold j_X12_site_106 at h
  refine rn_iload 2 rfl zd_X12_site_3.2.1.1.2 ?_
  refine rn_istore_n (q := 2) (ls' := [(2, .int x4), (0, .ref a0), (1, .int x1), (4, .int x4), (5, .int x5)]) (by decide) rfl zd_X12_site_3.2.1.2.1 ?_
  refine rn_iload 4 rfl zd_X12_site_3.2.1.2.2 ?_
  refine rn_istore_n (q := 3) (ls' := [(3, .int x5), (2, .int x4), (0, .ref a0), (1, .int x1), (4, .int x4), (5, .int x5)]) (by decide) rfl zd_X12_site_3.2.2.1.1 ?_
  refine rn_iinc (v := (x4 + 1)) (ls' := [(4, .int (x4 + 1)), (3, .int x5), (2, .int x4), (0, .ref a0), (1, .int x1), (5, .int x5)]) 4 rfl rfl (by decide) rfl zd_X12_site_3.2.2.1.2 ?_
  refine rn_goto (tgt := 35) zd_X12_site_3.2.2.2.1 rfl ?_
  cases h
  exact rn_sub (ls' := [(0, .ref a0), (1, .int x1), (2, .int x4), (3, .int x5), (4, .int (x4 + 1))]) [3, 4, 2, 1, 0] rfl hk
def b_X12_site_35 (R : zR) (M : zM) (a0 : Nat) (x1 : Int32) (x2 : Int32) (x3 : Int32) (x4 : Int32) : Option ((Int32 × Int32 × Int32 × zM) ⊕ ((Int32 × zM))) :=
  if (M (R a0 45) (ztn (40 : Int32))) < x4 then (
    some (.inr (x2, M))
  ) else (
    zbd (f_X12_copies R M a0) fun M6 =>
    zbd (f_X12_builds R M6 a0 x4 x1) fun M8 =>
    zbd (zloop zN (fun v => b_X12_site_64 R v.2.2 a0 x1 x2 x3 x4 v.1 v.2.1) ((0 : Int32), (0 : Int32), M8)) fun e14 =>
    if x2 < 0 then (
      j_X12_site_106 R e14.2 a0 x1 x4 e14.1
    ) else (
      if e14.1 < x3 then (
        j_X12_site_106 R e14.2 a0 x1 x4 e14.1
      ) else (
        some (.inl (x2, x3, (x4 + 1), e14.2))
      )
    )
  )
set_option maxRecDepth 4000 in
theorem ok_b_X12_site_35 {G : zG} {K : zK} {R : zR} {M : zM} {L : zL} (hW : zWT R K) {a0 : Nat} {x1 : Int32} {x2 : Int32} {x3 : Int32} {x4 : Int32} (k_a0 : K[a0]? = some (12, 61)) {r : Option Value} {S' : zS} {x : (Int32 × Int32 × Int32 × zM) ⊕ ((Int32 × zM))} (h : b_X12_site_35 R M a0 x1 x2 x3 x4 = some x) (hk : Sum.elim (P_X12_site_35 G K R L a0 x1 r S') (Q_X12_site_35 G K R L a0 x1 r S') x) : P_X12_site_35 G K R L a0 x1 r S' (x2, x3, x4, M) := by
  show Rn G mt_X12_site 35 [(0, .ref a0), (1, .int x1), (2, .int x2), (3, .int x3), (4, .int x4)] [] (M, L, R, K) r S'
  unfold b_X12_site_35 at h
  refine rn_iload 4 rfl zd_X12_site_1.1.2.1.2 ?_
  refine rn_aload_n (q := 0) 0 rfl zd_X12_site_1.1.2.2.1 ?_
  refine rn_getR zf_X12_101 (Or.inr ⟨_, rfl⟩) k_a0 (zx_12_45 hW k_a0) zd_X12_site_1.1.2.2.2 ?_
  refine rn_bipush (v := 40) zd_X12_site_1.2.1.1.1 rfl ?_
  refine rn_iald (zw_12_45 hW k_a0) (by decide) zd_X12_site_1.2.1.1.2 ?_
  rcases zif_e h with ⟨hc5, h⟩ | ⟨hc5, h⟩
  · refine rn_icmp_gt_t (tgt := 118) hc5 zd_X12_site_1.2.1.2.1 rfl ?_
    cases h
    exact rn_sub (ls' := [(2, .int x2)]) [2] rfl hk
  · refine rn_icmp_gt_f (tgt := 118) hc5 zd_X12_site_1.2.1.2.1 rfl ?_
    refine rn_aload_n (q := 0) 0 rfl zd_X12_site_1.2.1.2.2 ?_
    obtain ⟨M6, h7, h⟩ := zbd_e h
    refine rn_callVv (As := []) (rest := []) zl_X12_328 zm_X12_copies ⟨by decide, by decide⟩ (ci := 12) rfl rfl (by decide) k_a0 rfl rfl (Nat.le_of_ble_eq_true rfl) zd_X12_site_1.2.2.1.1 (ok_X12_copies hW k_a0 h7) ?_
    refine rn_aload_n (q := 0) 0 rfl zd_X12_site_1.2.2.1.2 ?_
    refine rn_iload 4 rfl zd_X12_site_1.2.2.2.1 ?_
    refine rn_iload_n (q := 1) 1 rfl zd_X12_site_1.2.2.2.2 ?_
    obtain ⟨M8, h9, h⟩ := zbd_e h
    refine rn_callVv (As := [.int x4, .int x1]) (rest := []) zl_X12_337 zm_X12_builds ⟨by decide, by decide⟩ (ci := 12) rfl rfl (by decide) k_a0 rfl rfl (Nat.le_of_ble_eq_true rfl) zd_X12_site_2.1.1.1.1 (ok_X12_builds hW k_a0 h9) ?_
    refine rn_iconst (v := 0) zd_X12_site_2.1.1.1.2 rfl ?_
    refine rn_istore (ls' := [(5, .int (0 : Int32)), (0, .ref a0), (1, .int x1), (2, .int x2), (3, .int x3), (4, .int x4)]) (by decide) rfl zd_X12_site_2.1.1.2.1 ?_
    refine rn_iconst (v := 0) zd_X12_site_2.1.1.2.2 rfl ?_
    refine rn_istore (ls' := [(6, .int (0 : Int32)), (5, .int (0 : Int32)), (0, .ref a0), (1, .int x1), (2, .int x2), (3, .int x3), (4, .int x4)]) (by decide) rfl zd_X12_site_2.1.2.1.1 ?_
    obtain ⟨e14, he14, h⟩ := zbd_e h
    refine rn_sub (ls' := [(0, .ref a0), (1, .int x1), (2, .int x2), (3, .int x3), (4, .int x4), (5, .int (0 : Int32)), (6, .int (0 : Int32))]) [2, 3, 4, 5, 6, 1, 0] rfl (zloop_ok (P := P_X12_site_64 G K R L a0 x1 x2 x3 x4 r S') (Q := Q_X12_site_64 G K R L a0 x1 x2 x3 x4 r S') (fun v x hx hq => ok_b_X12_site_64 hW k_a0 hx hq) _ _ _ he14 ?_)
    show Rn G mt_X12_site 93 [(0, .ref a0), (1, .int x1), (2, .int x2), (3, .int x3), (4, .int x4), (5, .int e14.1)] [] (e14.2, L, R, K) r S'
    refine rn_iload_n (q := 2) 2 rfl zd_X12_site_3.1.1.2.2 ?_
    rcases zif_e h with ⟨hc15, h⟩ | ⟨hc15, h⟩
    · refine rn_if_lt_t (tgt := 106) hc15 zd_X12_site_3.1.2.1.1 rfl ?_
      exact rn_sub (ls' := [(0, .ref a0), (1, .int x1), (4, .int x4), (5, .int e14.1)]) [0, 1, 4, 5] rfl (ok_j_X12_site_106 hW k_a0 h hk)
    · refine rn_if_lt_f (tgt := 106) hc15 zd_X12_site_3.1.2.1.1 rfl ?_
      refine rn_iload 5 rfl zd_X12_site_3.1.2.1.2 ?_
      refine rn_iload_n (q := 3) 3 rfl zd_X12_site_3.1.2.2.1 ?_
      rcases zif_e h with ⟨hc16, h⟩ | ⟨hc16, h⟩
      · refine rn_icmp_lt_t (tgt := 106) hc16 zd_X12_site_3.1.2.2.2 rfl ?_
        exact rn_sub (ls' := [(0, .ref a0), (1, .int x1), (4, .int x4), (5, .int e14.1)]) [0, 1, 4, 5] rfl (ok_j_X12_site_106 hW k_a0 h hk)
      · refine rn_icmp_lt_f (tgt := 106) hc16 zd_X12_site_3.1.2.2.2 rfl ?_
        refine rn_goto (tgt := 112) zd_X12_site_3.2.1.1.1 rfl ?_
        refine rn_iinc (v := (x4 + 1)) (ls' := [(4, .int (x4 + 1)), (0, .ref a0), (1, .int x1), (2, .int x2), (3, .int x3), (5, .int e14.1)]) 4 rfl rfl (by decide) rfl zd_X12_site_3.2.2.1.2 ?_
        refine rn_goto (tgt := 35) zd_X12_site_3.2.2.2.1 rfl ?_
        cases h
        exact rn_sub (ls' := [(0, .ref a0), (1, .int x1), (2, .int x2), (3, .int x3), (4, .int (x4 + 1))]) [1, 2, 3, 4, 0] rfl hk
def f_X12_site (R : zR) (M : zM) (a0 : Nat) (x1 : Int32) : Option (Int32 × zM) :=
  zbd (f_X12_in x1 (0 : Int32) (9999 : Int32)) fun r1 =>
  if r1 = 0 then (
    some ((-1 : Int32), M)
  ) else (
    if (M (R a0 45) (ztn (40 : Int32))) = (10 : Int32) then (
      some ((-2 : Int32), M)
    ) else (
      zbd (zloop zN (fun v => b_X12_site_35 R v.2.2.2 a0 x1 v.1 v.2.1 v.2.2.1) ((-1 : Int32), (0 : Int32), (0 : Int32), M)) fun e17 =>
      some (e17.1, e17.2)
    )
  )
set_option maxRecDepth 4000 in
theorem ok_X12_site {G : zG} {K : zK} {R : zR} {M : zM} {L : zL} (hW : zWT R K) {a0 : Nat} {x1 : Int32} (k_a0 : K[a0]? = some (12, 61)) {r' : Int32} {M' : zM} (h : f_X12_site R M a0 x1 = some (r', M')) : Rm G mt_X12_site [.ref a0, .int x1] (M, L, R, K) (some (.int r')) (M', L, R, K) := by
  refine rm_rn rfl rfl (Nat.le_of_ble_eq_true rfl) ?_
  show Rn G mt_X12_site 0 [(0, .ref a0), (1, .int x1)] [] (M, L, R, K) (some (.int r')) (M', L, R, K)
  unfold f_X12_site at h
  refine rn_iload_n (q := 1) 1 rfl zd_X12_site_0.1.1.1.1 ?_
  refine rn_iconst (v := 0) zd_X12_site_0.1.1.1.2 rfl ?_
  refine rn_sipush (v := 9999) zd_X12_site_0.1.1.2.1 rfl ?_
  obtain ⟨r1, h2, h⟩ := zbd_e h
  refine rn_callSi (As := [.int x1, .int (0 : Int32), .int (9999 : Int32)]) (rest := []) zl_X12_276 zm_X12_in ⟨by decide, by decide⟩ rfl rfl (Nat.le_of_ble_eq_true rfl) zd_X12_site_0.1.1.2.2 (ok_X12_in hW h2) ?_
  rcases zif_e h with ⟨hc3, h⟩ | ⟨hc3, h⟩
  · refine rn_if_ne_f (tgt := 13) hc3 zd_X12_site_0.1.2.1.1 rfl ?_
    refine rn_iconst (v := -1) zd_X12_site_0.1.2.1.2 rfl ?_
    cases h
    exact rn_iret zd_X12_site_0.1.2.2.1 rfl
  · refine rn_if_ne_t (tgt := 13) hc3 zd_X12_site_0.1.2.1.1 rfl ?_
    refine rn_aload_n (q := 0) 0 rfl zd_X12_site_0.1.2.2.2 ?_
    refine rn_getR zf_X12_101 (Or.inr ⟨_, rfl⟩) k_a0 (zx_12_45 hW k_a0) zd_X12_site_0.2.1.1.1 ?_
    refine rn_bipush (v := 40) zd_X12_site_0.2.1.1.2 rfl ?_
    refine rn_iald (zw_12_45 hW k_a0) (by decide) zd_X12_site_0.2.1.2.1 ?_
    refine rn_bipush (v := 10) zd_X12_site_0.2.1.2.2 rfl ?_
    rcases zif_e h with ⟨hc4, h⟩ | ⟨hc4, h⟩
    · refine rn_icmp_ne_f (tgt := 28) hc4 zd_X12_site_0.2.2.1.1 rfl ?_
      refine rn_bipush (v := -2) zd_X12_site_0.2.2.1.2 rfl ?_
      cases h
      exact rn_iret zd_X12_site_0.2.2.2.1 rfl
    · refine rn_icmp_ne_t (tgt := 28) hc4 zd_X12_site_0.2.2.1.1 rfl ?_
      refine rn_iconst (v := -1) zd_X12_site_0.2.2.2.2 rfl ?_
      refine rn_istore_n (q := 2) (ls' := [(2, .int (-1 : Int32)), (0, .ref a0), (1, .int x1)]) (by decide) rfl zd_X12_site_1.1.1.1.1 ?_
      refine rn_iconst (v := 0) zd_X12_site_1.1.1.1.2 rfl ?_
      refine rn_istore_n (q := 3) (ls' := [(3, .int (0 : Int32)), (2, .int (-1 : Int32)), (0, .ref a0), (1, .int x1)]) (by decide) rfl zd_X12_site_1.1.1.2.1 ?_
      refine rn_iconst (v := 0) zd_X12_site_1.1.1.2.2 rfl ?_
      refine rn_istore (ls' := [(4, .int (0 : Int32)), (3, .int (0 : Int32)), (2, .int (-1 : Int32)), (0, .ref a0), (1, .int x1)]) (by decide) rfl zd_X12_site_1.1.2.1.1 ?_
      obtain ⟨e17, he17, h⟩ := zbd_e h
      refine rn_sub (ls' := [(0, .ref a0), (1, .int x1), (2, .int (-1 : Int32)), (3, .int (0 : Int32)), (4, .int (0 : Int32))]) [3, 4, 2, 1, 0] rfl (zloop_ok (P := P_X12_site_35 G K R L a0 x1 (some (.int r')) (M', L, R, K)) (Q := Q_X12_site_35 G K R L a0 x1 (some (.int r')) (M', L, R, K)) (fun v x hx hq => ok_b_X12_site_35 hW k_a0 hx hq) _ _ _ he17 ?_)
      show Rn G mt_X12_site 118 [(2, .int e17.1)] [] (e17.2, L, R, K) (some (.int r')) (M', L, R, K)
      refine rn_iload_n (q := 2) 0 rfl zd_X12_site_3.2.2.2.2 ?_
      cases h
      exact rn_iret zd_X12_site_4 rfl
abbrev P_X12_hides_6 (G : zG) (K : zK) (R : zR) (L : zL) (a0 : Nat) (x1 : Int32) (x2 : Int32) (r : Option Value) (S' : zS) (v : Int32 × zM) : Prop := Rn G mt_X12_hides 6 [(0, .ref a0), (1, .int x1), (2, .int x2), (3, .int v.1)] [] (v.2, L, R, K) r S'
abbrev Q_X12_hides_6 (G : zG) (K : zK) (R : zR) (L : zL) (a0 : Nat) (x1 : Int32) (x2 : Int32) (r : Option Value) (S' : zS) : (zM) → Prop := (fun e => Rn G mt_X12_hides 64 [] [] (e, L, R, K) r S')
def j_X12_hides_57 (R : zR) (M : zM) (a0 : Nat) (x1 : Int32) (x2 : Int32) (x3 : Int32) (b0 : Nat) (s1 : Int32) (s2 : Int32) : Option ((Int32 × zM) ⊕ ((zM))) :=
  zck (zin s1 60) <|
  zlt (zup M b0 (ztn s1) s2) fun M9 =>
  some (.inl ((x3 + 1), M9))
set_option maxRecDepth 4000 in
theorem ok_j_X12_hides_57 {G : zG} {K : zK} {R : zR} {M : zM} {L : zL} (hW : zWT R K) {a0 : Nat} {x1 : Int32} {x2 : Int32} {x3 : Int32} {b0 : Nat} {s1 : Int32} {s2 : Int32} (k_a0 : K[a0]? = some (12, 61)) (k_b0 : K[b0]? = some (20, 60)) {r : Option Value} {S' : zS} {x : (Int32 × zM) ⊕ ((zM))} (h : j_X12_hides_57 R M a0 x1 x2 x3 b0 s1 s2 = some x) (hk : Sum.elim (P_X12_hides_6 G K R L a0 x1 x2 r S') (Q_X12_hides_6 G K R L a0 x1 x2 r S') x) : Rn G mt_X12_hides 57 [(0, .ref a0), (1, .int x1), (2, .int x2), (3, .int x3)] [.int s2, .int s1, .ref b0] (M, L, R, K) r S' := by
  unfold j_X12_hides_57 at h
  obtain ⟨hc8, h⟩ := zck_e h
  obtain ⟨M9, hM9, h⟩ := zlt_e h
  refine rn_iast hM9 k_b0 hc8 zd_X12_hides_2.2.1.1 ?_
  refine rn_iinc (v := (x3 + 1)) (ls' := [(3, .int (x3 + 1)), (0, .ref a0), (1, .int x1), (2, .int x2)]) 3 rfl rfl (by decide) rfl zd_X12_hides_2.2.1.2 ?_
  refine rn_goto (tgt := 6) zd_X12_hides_2.2.2.1 rfl ?_
  cases h
  exact rn_sub (ls' := [(0, .ref a0), (1, .int x1), (2, .int x2), (3, .int (x3 + 1))]) [1, 2, 3, 0] rfl hk
def b_X12_hides_6 (R : zR) (M : zM) (a0 : Nat) (x1 : Int32) (x2 : Int32) (x3 : Int32) : Option ((Int32 × zM) ⊕ ((zM))) :=
  if (M (R a0 46) (ztn (40 : Int32))) ≤ x3 then (
    some (.inr M)
  ) else (
    if ((x1 >>> (x3 &&& 31)) &&& (1 : Int32)) = 0 then (
      j_X12_hides_57 R M a0 x1 x2 x3 (R a0 46) ((10 : Int32) + x3) (0 : Int32)
    ) else (
      zck (zin x3 60) <|
      if (M (R a0 46) (ztn x3)) ≤ x2 then (
        zck (zin x3 60) <|
        j_X12_hides_57 R M a0 x1 x2 x3 (R a0 46) ((10 : Int32) + x3) (M (R a0 46) (ztn x3))
      ) else (
        j_X12_hides_57 R M a0 x1 x2 x3 (R a0 46) ((10 : Int32) + x3) x2
      )
    )
  )
set_option maxRecDepth 4000 in
theorem ok_b_X12_hides_6 {G : zG} {K : zK} {R : zR} {M : zM} {L : zL} (hW : zWT R K) {a0 : Nat} {x1 : Int32} {x2 : Int32} {x3 : Int32} (k_a0 : K[a0]? = some (12, 61)) {r : Option Value} {S' : zS} {x : (Int32 × zM) ⊕ ((zM))} (h : b_X12_hides_6 R M a0 x1 x2 x3 = some x) (hk : Sum.elim (P_X12_hides_6 G K R L a0 x1 x2 r S') (Q_X12_hides_6 G K R L a0 x1 x2 r S') x) : P_X12_hides_6 G K R L a0 x1 x2 r S' (x3, M) := by
  show Rn G mt_X12_hides 6 [(0, .ref a0), (1, .int x1), (2, .int x2), (3, .int x3)] [] (M, L, R, K) r S'
  unfold b_X12_hides_6 at h
  refine rn_iload_n (q := 3) 3 rfl zd_X12_hides_0.1.2.1.1 ?_
  refine rn_aload_n (q := 0) 0 rfl zd_X12_hides_0.1.2.1.2 ?_
  refine rn_getR zf_X12_104 (Or.inr ⟨_, rfl⟩) k_a0 (zx_12_46 hW k_a0) zd_X12_hides_0.1.2.2.1 ?_
  refine rn_bipush (v := 40) zd_X12_hides_0.1.2.2.2 rfl ?_
  refine rn_iald (zw_12_46 hW k_a0) (by decide) zd_X12_hides_0.2.1.1.1 ?_
  rcases zif_e h with ⟨hc3, h⟩ | ⟨hc3, h⟩
  · refine rn_icmp_ge_t (tgt := 64) hc3 zd_X12_hides_0.2.1.1.2 rfl ?_
    cases h
    exact rn_sub (ls' := []) [] rfl hk
  · refine rn_icmp_ge_f (tgt := 64) hc3 zd_X12_hides_0.2.1.1.2 rfl ?_
    refine rn_aload_n (q := 0) 0 rfl zd_X12_hides_0.2.1.2.1 ?_
    refine rn_getR zf_X12_104 (Or.inr ⟨_, rfl⟩) k_a0 (zx_12_46 hW k_a0) zd_X12_hides_0.2.1.2.2 ?_
    refine rn_bipush (v := 10) zd_X12_hides_0.2.2.1.1 rfl ?_
    refine rn_iload_n (q := 3) 3 rfl zd_X12_hides_0.2.2.1.2 ?_
    refine rn_iadd zd_X12_hides_0.2.2.2.1 ?_
    refine rn_iload_n (q := 1) 1 rfl zd_X12_hides_0.2.2.2.2 ?_
    refine rn_iload_n (q := 3) 3 rfl zd_X12_hides_1.1.1.1.1 ?_
    refine rn_ishr zd_X12_hides_1.1.1.1.2 ?_
    refine rn_iconst (v := 1) zd_X12_hides_1.1.1.2.1 rfl ?_
    refine rn_iand zd_X12_hides_1.1.1.2.2 ?_
    rcases zif_e h with ⟨hc4, h⟩ | ⟨hc4, h⟩
    · refine rn_if_ne_f (tgt := 37) hc4 zd_X12_hides_1.1.2.1.1 rfl ?_
      refine rn_iconst (v := 0) zd_X12_hides_1.1.2.1.2 rfl ?_
      refine rn_goto (tgt := 57) zd_X12_hides_1.1.2.2.1 rfl ?_
      exact rn_sub (ls' := [(0, .ref a0), (1, .int x1), (2, .int x2), (3, .int x3)]) [0, 1, 2, 3] rfl (ok_j_X12_hides_57 hW k_a0 (zw_12_46 hW k_a0) h hk)
    · refine rn_if_ne_t (tgt := 37) hc4 zd_X12_hides_1.1.2.1.1 rfl ?_
      refine rn_iload_n (q := 2) 2 rfl zd_X12_hides_1.1.2.2.2 ?_
      refine rn_aload_n (q := 0) 0 rfl zd_X12_hides_1.2.1.1.1 ?_
      refine rn_getR zf_X12_104 (Or.inr ⟨_, rfl⟩) k_a0 (zx_12_46 hW k_a0) zd_X12_hides_1.2.1.1.2 ?_
      refine rn_iload_n (q := 3) 3 rfl zd_X12_hides_1.2.1.2.1 ?_
      obtain ⟨hc5, h⟩ := zck_e h
      refine rn_iald (zw_12_46 hW k_a0) hc5 zd_X12_hides_1.2.1.2.2 ?_
      rcases zif_e h with ⟨hc6, h⟩ | ⟨hc6, h⟩
      · refine rn_icmp_ge_t (tgt := 51) hc6 zd_X12_hides_1.2.2.1.1 rfl ?_
        refine rn_aload_n (q := 0) 0 rfl zd_X12_hides_1.2.2.2.2 ?_
        refine rn_getR zf_X12_104 (Or.inr ⟨_, rfl⟩) k_a0 (zx_12_46 hW k_a0) zd_X12_hides_2.1.1 ?_
        refine rn_iload_n (q := 3) 3 rfl zd_X12_hides_2.1.2.1 ?_
        obtain ⟨hc7, h⟩ := zck_e h
        refine rn_iald (zw_12_46 hW k_a0) hc7 zd_X12_hides_2.1.2.2 ?_
        exact rn_sub (ls' := [(0, .ref a0), (1, .int x1), (2, .int x2), (3, .int x3)]) [0, 1, 2, 3] rfl (ok_j_X12_hides_57 hW k_a0 (zw_12_46 hW k_a0) h hk)
      · refine rn_icmp_ge_f (tgt := 51) hc6 zd_X12_hides_1.2.2.1.1 rfl ?_
        refine rn_iload_n (q := 2) 2 rfl zd_X12_hides_1.2.2.1.2 ?_
        refine rn_goto (tgt := 57) zd_X12_hides_1.2.2.2.1 rfl ?_
        exact rn_sub (ls' := [(0, .ref a0), (1, .int x1), (2, .int x2), (3, .int x3)]) [0, 1, 2, 3] rfl (ok_j_X12_hides_57 hW k_a0 (zw_12_46 hW k_a0) h hk)
def f_X12_hides (R : zR) (M : zM) (a0 : Nat) (x1 : Int32) (x2 : Int32) : Option (zM) :=
  zbd (f_X12_copies R M a0) fun M1 =>
  zbd (zloop zN (fun v => b_X12_hides_6 R v.2 a0 x1 x2 v.1) ((0 : Int32), M1)) fun e10 =>
  some e10
set_option maxRecDepth 4000 in
theorem ok_X12_hides {G : zG} {K : zK} {R : zR} {M : zM} {L : zL} (hW : zWT R K) {a0 : Nat} {x1 : Int32} {x2 : Int32} (k_a0 : K[a0]? = some (12, 61)) {M' : zM} (h : f_X12_hides R M a0 x1 x2 = some M') : Rm G mt_X12_hides [.ref a0, .int x1, .int x2] (M, L, R, K) none (M', L, R, K) := by
  refine rm_rn rfl rfl (Nat.le_of_ble_eq_true rfl) ?_
  show Rn G mt_X12_hides 0 [(0, .ref a0), (1, .int x1), (2, .int x2)] [] (M, L, R, K) none (M', L, R, K)
  unfold f_X12_hides at h
  refine rn_aload_n (q := 0) 0 rfl zd_X12_hides_0.1.1.1.1 ?_
  obtain ⟨M1, h2, h⟩ := zbd_e h
  refine rn_callVv (As := []) (rest := []) zl_X12_328 zm_X12_copies ⟨by decide, by decide⟩ (ci := 12) rfl rfl (by decide) k_a0 rfl rfl (Nat.le_of_ble_eq_true rfl) zd_X12_hides_0.1.1.1.2 (ok_X12_copies hW k_a0 h2) ?_
  refine rn_iconst (v := 0) zd_X12_hides_0.1.1.2.1 rfl ?_
  refine rn_istore_n (q := 3) (ls' := [(3, .int (0 : Int32)), (0, .ref a0), (1, .int x1), (2, .int x2)]) (by decide) rfl zd_X12_hides_0.1.1.2.2 ?_
  obtain ⟨e10, he10, h⟩ := zbd_e h
  refine rn_sub (ls' := [(0, .ref a0), (1, .int x1), (2, .int x2), (3, .int (0 : Int32))]) [1, 2, 3, 0] rfl (zloop_ok (P := P_X12_hides_6 G K R L a0 x1 x2 none (M', L, R, K)) (Q := Q_X12_hides_6 G K R L a0 x1 x2 none (M', L, R, K)) (fun v x hx hq => ok_b_X12_hides_6 hW k_a0 hx hq) _ _ _ he10 ?_)
  show Rn G mt_X12_hides 64 [] [] (e10, L, R, K) none (M', L, R, K)
  cases h
  exact rn_vret zd_X12_hides_2.2.2.2 rfl
abbrev P_X12_isResting_2 (G : zG) (K : zK) (R : zR) (M : zM) (L : zL) (a0 : Nat) (x1 : Int32) (r : Option Value) (S' : zS) (v : Int32) : Prop := Rn G mt_X12_isResting 2 [(0, .ref a0), (1, .int x1), (2, .int v)] [] (M, L, R, K) r S'
abbrev Q_X12_isResting_2 (G : zG) (K : zK) (R : zR) (M : zM) (L : zL) (a0 : Nat) (x1 : Int32) (r : Option Value) (S' : zS) : (Unit) ⊕ (Unit) → Prop := (Sum.elim (fun e => Rn G mt_X12_isResting 42 [] [] (M, L, R, K) r S') (fun e => Rn G mt_X12_isResting 50 [] [] (M, L, R, K) r S'))
def b_X12_isResting_2 (R : zR) (M : zM) (a0 : Nat) (x1 : Int32) (x2 : Int32) : Option ((Int32) ⊕ ((Unit) ⊕ (Unit))) :=
  if (M (R a0 45) (ztn (40 : Int32))) ≤ x2 then (
    some (.inr (.inr ()))
  ) else (
    zck (zin (((10 : Int32) * (x1 ^^^ ((1 : Int32) <<< (x2 &&& 31)))) + x2) 2560) <|
    zck (zin (((10 : Int32) * x1) + x2) 2560) <|
    if (M (R a0 52) (ztn (((10 : Int32) * (x1 ^^^ ((1 : Int32) <<< (x2 &&& 31)))) + x2))) ≤ (M (R a0 52) (ztn (((10 : Int32) * x1) + x2))) then (
      some (.inl (x2 + 1))
    ) else (
      some (.inr (.inl ()))
    )
  )
set_option maxRecDepth 4000 in
theorem ok_b_X12_isResting_2 {G : zG} {K : zK} {R : zR} {M : zM} {L : zL} (hW : zWT R K) {a0 : Nat} {x1 : Int32} {x2 : Int32} (k_a0 : K[a0]? = some (12, 61)) {r : Option Value} {S' : zS} {x : (Int32) ⊕ ((Unit) ⊕ (Unit))} (h : b_X12_isResting_2 R M a0 x1 x2 = some x) (hk : Sum.elim (P_X12_isResting_2 G K R M L a0 x1 r S') (Q_X12_isResting_2 G K R M L a0 x1 r S') x) : P_X12_isResting_2 G K R M L a0 x1 r S' x2 := by
  show Rn G mt_X12_isResting 2 [(0, .ref a0), (1, .int x1), (2, .int x2)] [] (M, L, R, K) r S'
  unfold b_X12_isResting_2 at h
  refine rn_iload_n (q := 2) 2 rfl zd_X12_isResting_0.1.1.2.1 ?_
  refine rn_aload_n (q := 0) 0 rfl zd_X12_isResting_0.1.1.2.2 ?_
  refine rn_getR zf_X12_101 (Or.inr ⟨_, rfl⟩) k_a0 (zx_12_45 hW k_a0) zd_X12_isResting_0.1.2.1.1 ?_
  refine rn_bipush (v := 40) zd_X12_isResting_0.1.2.1.2 rfl ?_
  refine rn_iald (zw_12_45 hW k_a0) (by decide) zd_X12_isResting_0.1.2.2.1 ?_
  rcases zif_e h with ⟨hc1, h⟩ | ⟨hc1, h⟩
  · refine rn_icmp_ge_t (tgt := 50) hc1 zd_X12_isResting_0.1.2.2.2 rfl ?_
    cases h
    exact rn_sub (ls' := []) [] rfl hk
  · refine rn_icmp_ge_f (tgt := 50) hc1 zd_X12_isResting_0.1.2.2.2 rfl ?_
    refine rn_aload_n (q := 0) 0 rfl zd_X12_isResting_0.2.1.1.1 ?_
    refine rn_getR zf_X12_116 (Or.inr ⟨_, rfl⟩) k_a0 (zx_12_52 hW k_a0) zd_X12_isResting_0.2.1.1.2 ?_
    refine rn_bipush (v := 10) zd_X12_isResting_0.2.1.2.1 rfl ?_
    refine rn_iload_n (q := 1) 1 rfl zd_X12_isResting_0.2.1.2.2 ?_
    refine rn_iconst (v := 1) zd_X12_isResting_0.2.2.1.1 rfl ?_
    refine rn_iload_n (q := 2) 2 rfl zd_X12_isResting_0.2.2.1.2 ?_
    refine rn_ishl zd_X12_isResting_0.2.2.2.1 ?_
    refine rn_ixor zd_X12_isResting_0.2.2.2.2 ?_
    refine rn_imul zd_X12_isResting_1.1.1.1.1 ?_
    refine rn_iload_n (q := 2) 2 rfl zd_X12_isResting_1.1.1.1.2 ?_
    refine rn_iadd zd_X12_isResting_1.1.1.2.1 ?_
    obtain ⟨hc2, h⟩ := zck_e h
    refine rn_iald (zw_12_52 hW k_a0) hc2 zd_X12_isResting_1.1.1.2.2 ?_
    refine rn_aload_n (q := 0) 0 rfl zd_X12_isResting_1.1.2.1.1 ?_
    refine rn_getR zf_X12_116 (Or.inr ⟨_, rfl⟩) k_a0 (zx_12_52 hW k_a0) zd_X12_isResting_1.1.2.1.2 ?_
    refine rn_bipush (v := 10) zd_X12_isResting_1.1.2.2.1 rfl ?_
    refine rn_iload_n (q := 1) 1 rfl zd_X12_isResting_1.1.2.2.2 ?_
    refine rn_imul zd_X12_isResting_1.2.1.1.1 ?_
    refine rn_iload_n (q := 2) 2 rfl zd_X12_isResting_1.2.1.1.2 ?_
    refine rn_iadd zd_X12_isResting_1.2.1.2.1 ?_
    obtain ⟨hc3, h⟩ := zck_e h
    refine rn_iald (zw_12_52 hW k_a0) hc3 zd_X12_isResting_1.2.1.2.2 ?_
    rcases zif_e h with ⟨hc4, h⟩ | ⟨hc4, h⟩
    · refine rn_icmp_le_t (tgt := 44) hc4 zd_X12_isResting_1.2.2.1.1 rfl ?_
      refine rn_iinc (v := (x2 + 1)) (ls' := [(2, .int (x2 + 1)), (0, .ref a0), (1, .int x1)]) 2 rfl rfl (by decide) rfl zd_X12_isResting_1.2.2.2.2 ?_
      refine rn_goto (tgt := 2) zd_X12_isResting_2.1 rfl ?_
      cases h
      exact rn_sub (ls' := [(0, .ref a0), (1, .int x1), (2, .int (x2 + 1))]) [1, 2, 0] rfl hk
    · refine rn_icmp_le_f (tgt := 44) hc4 zd_X12_isResting_1.2.2.1.1 rfl ?_
      cases h
      exact rn_sub (ls' := []) [] rfl hk
def f_X12_isResting (R : zR) (M : zM) (a0 : Nat) (x1 : Int32) : Option (Int32) :=
  zbd (zloop zN (fun v => b_X12_isResting_2 R M a0 x1 v) (0 : Int32)) fun e5 =>
  Sum.elim (fun e6 =>
    some (0 : Int32)
  ) (fun e7 =>
    some (1 : Int32)
  ) e5
set_option maxRecDepth 4000 in
theorem ok_X12_isResting {G : zG} {K : zK} {R : zR} {M : zM} {L : zL} (hW : zWT R K) {a0 : Nat} {x1 : Int32} (k_a0 : K[a0]? = some (12, 61)) {r' : Int32} (h : f_X12_isResting R M a0 x1 = some r') : Rm G mt_X12_isResting [.ref a0, .int x1] (M, L, R, K) (some (.int r')) (M, L, R, K) := by
  refine rm_rn rfl rfl (Nat.le_of_ble_eq_true rfl) ?_
  show Rn G mt_X12_isResting 0 [(0, .ref a0), (1, .int x1)] [] (M, L, R, K) (some (.int r')) (M, L, R, K)
  unfold f_X12_isResting at h
  refine rn_iconst (v := 0) zd_X12_isResting_0.1.1.1.1 rfl ?_
  refine rn_istore_n (q := 2) (ls' := [(2, .int (0 : Int32)), (0, .ref a0), (1, .int x1)]) (by decide) rfl zd_X12_isResting_0.1.1.1.2 ?_
  obtain ⟨e5, he5, h⟩ := zbd_e h
  refine rn_sub (ls' := [(0, .ref a0), (1, .int x1), (2, .int (0 : Int32))]) [1, 2, 0] rfl (zloop_ok (P := P_X12_isResting_2 G K R M L a0 x1 (some (.int r')) (M, L, R, K)) (Q := Q_X12_isResting_2 G K R M L a0 x1 (some (.int r')) (M, L, R, K)) (fun v x hx hq => ok_b_X12_isResting_2 hW k_a0 hx hq) _ _ _ he5 ?_)
  rcases e5 with e6 | e7
  · rw [Sum.elim_inl] at h
    show Rn G mt_X12_isResting 42 [] [] (M, L, R, K) (some (.int r')) (M, L, R, K)
    refine rn_iconst (v := 0) zd_X12_isResting_1.2.2.1.2 rfl ?_
    cases h
    exact rn_zret zd_X12_isResting_1.2.2.2.1 rfl rfl
  · rw [Sum.elim_inr] at h
    show Rn G mt_X12_isResting 50 [] [] (M, L, R, K) (some (.int r')) (M, L, R, K)
    refine rn_iconst (v := 1) zd_X12_isResting_2.2.1 rfl ?_
    cases h
    exact rn_zret zd_X12_isResting_2.2.2 rfl rfl
abbrev P_X12_rests_35 (G : zG) (K : zK) (R : zR) (L : zL) (a0 : Nat) (x1 : Int32) (x2 : Int32) (r : Option Value) (S' : zS) (v : Int32 × zM) : Prop := Rn G mt_X12_rests 35 [(0, .ref a0), (1, .int x1), (2, .int x2), (3, .int v.1)] [] (v.2, L, R, K) r S'
abbrev Q_X12_rests_35 (G : zG) (K : zK) (R : zR) (L : zL) (a0 : Nat) (x1 : Int32) (x2 : Int32) (r : Option Value) (S' : zS) : (zM) → Prop := (fun e => Rn G mt_X12_rests 100 [(0, .ref a0), (2, .int x2)] [] (e, L, R, K) r S')
abbrev P_X12_rests_62 (G : zG) (K : zK) (R : zR) (L : zL) (a0 : Nat) (x1 : Int32) (x2 : Int32) (x3 : Int32) (r : Option Value) (S' : zS) (v : Int32 × zM) : Prop := Rn G mt_X12_rests 62 [(0, .ref a0), (1, .int x1), (2, .int x2), (3, .int x3), (4, .int v.1)] [] (v.2, L, R, K) r S'
abbrev Q_X12_rests_62 (G : zG) (K : zK) (R : zR) (L : zL) (a0 : Nat) (x1 : Int32) (x2 : Int32) (x3 : Int32) (r : Option Value) (S' : zS) : (zM) → Prop := (fun e => Rn G mt_X12_rests 94 [(0, .ref a0), (1, .int x1), (2, .int x2), (3, .int x3)] [] (e, L, R, K) r S')
def b_X12_rests_62 (R : zR) (M : zM) (a0 : Nat) (x1 : Int32) (x2 : Int32) (x3 : Int32) (x4 : Int32) : Option ((Int32 × zM) ⊕ ((zM))) :=
  if (10 : Int32) ≤ x4 then (
    some (.inr M)
  ) else (
    zck (zin x4 60) <|
    zck (zin (((10 : Int32) * x3) + x4) 2560) <|
    zlt (zup M (R a0 52) (ztn (((10 : Int32) * x3) + x4)) (M (R a0 46) (ztn x4))) fun M14 =>
    some (.inl ((x4 + 1), M14))
  )
set_option maxRecDepth 4000 in
theorem ok_b_X12_rests_62 {G : zG} {K : zK} {R : zR} {M : zM} {L : zL} (hW : zWT R K) {a0 : Nat} {x1 : Int32} {x2 : Int32} {x3 : Int32} {x4 : Int32} (k_a0 : K[a0]? = some (12, 61)) {r : Option Value} {S' : zS} {x : (Int32 × zM) ⊕ ((zM))} (h : b_X12_rests_62 R M a0 x1 x2 x3 x4 = some x) (hk : Sum.elim (P_X12_rests_62 G K R L a0 x1 x2 x3 r S') (Q_X12_rests_62 G K R L a0 x1 x2 x3 r S') x) : P_X12_rests_62 G K R L a0 x1 x2 x3 r S' (x4, M) := by
  show Rn G mt_X12_rests 62 [(0, .ref a0), (1, .int x1), (2, .int x2), (3, .int x3), (4, .int x4)] [] (M, L, R, K) r S'
  unfold b_X12_rests_62 at h
  refine rn_iload 4 rfl zd_X12_rests_2.1.2.1.2 ?_
  refine rn_bipush (v := 10) zd_X12_rests_2.1.2.2.1 rfl ?_
  rcases zif_e h with ⟨hc11, h⟩ | ⟨hc11, h⟩
  · refine rn_icmp_ge_t (tgt := 94) hc11 zd_X12_rests_2.1.2.2.2 rfl ?_
    cases h
    exact rn_sub (ls' := [(0, .ref a0), (1, .int x1), (2, .int x2), (3, .int x3)]) [0, 1, 2, 3] rfl hk
  · refine rn_icmp_ge_f (tgt := 94) hc11 zd_X12_rests_2.1.2.2.2 rfl ?_
    refine rn_aload_n (q := 0) 0 rfl zd_X12_rests_2.2.1.1.1 ?_
    refine rn_getR zf_X12_116 (Or.inr ⟨_, rfl⟩) k_a0 (zx_12_52 hW k_a0) zd_X12_rests_2.2.1.1.2 ?_
    refine rn_bipush (v := 10) zd_X12_rests_2.2.1.2.1 rfl ?_
    refine rn_iload_n (q := 3) 3 rfl zd_X12_rests_2.2.1.2.2 ?_
    refine rn_imul zd_X12_rests_2.2.2.1.1 ?_
    refine rn_iload 4 rfl zd_X12_rests_2.2.2.1.2 ?_
    refine rn_iadd zd_X12_rests_2.2.2.2.1 ?_
    refine rn_aload_n (q := 0) 0 rfl zd_X12_rests_2.2.2.2.2 ?_
    refine rn_getR zf_X12_104 (Or.inr ⟨_, rfl⟩) k_a0 (zx_12_46 hW k_a0) zd_X12_rests_3.1.1.1.1 ?_
    refine rn_iload 4 rfl zd_X12_rests_3.1.1.1.2 ?_
    obtain ⟨hc12, h⟩ := zck_e h
    refine rn_iald (zw_12_46 hW k_a0) hc12 zd_X12_rests_3.1.1.2.1 ?_
    obtain ⟨hc13, h⟩ := zck_e h
    obtain ⟨M14, hM14, h⟩ := zlt_e h
    refine rn_iast hM14 (zw_12_52 hW k_a0) hc13 zd_X12_rests_3.1.1.2.2 ?_
    refine rn_iinc (v := (x4 + 1)) (ls' := [(4, .int (x4 + 1)), (0, .ref a0), (1, .int x1), (2, .int x2), (3, .int x3)]) 4 rfl rfl (by decide) rfl zd_X12_rests_3.1.2.1.1 ?_
    refine rn_goto (tgt := 62) zd_X12_rests_3.1.2.1.2 rfl ?_
    cases h
    exact rn_sub (ls' := [(0, .ref a0), (1, .int x1), (2, .int x2), (3, .int x3), (4, .int (x4 + 1))]) [1, 2, 3, 4, 0] rfl hk
def b_X12_rests_35 (R : zR) (M : zM) (a0 : Nat) (x1 : Int32) (x2 : Int32) (x3 : Int32) : Option ((Int32 × zM) ⊕ ((zM))) :=
  if ((1 : Int32) <<< ((M (R a0 45) (ztn (40 : Int32))) &&& 31)) ≤ x3 then (
    some (.inr M)
  ) else (
    zbd (f_X12_hides R M a0 x3 x1) fun M7 =>
    zbd (f_X12_evenings R M7 a0 (1 : Int32)) fun M9 =>
    zbd (zloop zN (fun v => b_X12_rests_62 R v.2 a0 x1 x2 x3 v.1) ((0 : Int32), M9)) fun e15 =>
    some (.inl ((x3 + 1), e15))
  )
set_option maxRecDepth 4000 in
theorem ok_b_X12_rests_35 {G : zG} {K : zK} {R : zR} {M : zM} {L : zL} (hW : zWT R K) {a0 : Nat} {x1 : Int32} {x2 : Int32} {x3 : Int32} (k_a0 : K[a0]? = some (12, 61)) {r : Option Value} {S' : zS} {x : (Int32 × zM) ⊕ ((zM))} (h : b_X12_rests_35 R M a0 x1 x2 x3 = some x) (hk : Sum.elim (P_X12_rests_35 G K R L a0 x1 x2 r S') (Q_X12_rests_35 G K R L a0 x1 x2 r S') x) : P_X12_rests_35 G K R L a0 x1 x2 r S' (x3, M) := by
  show Rn G mt_X12_rests 35 [(0, .ref a0), (1, .int x1), (2, .int x2), (3, .int x3)] [] (M, L, R, K) r S'
  unfold b_X12_rests_35 at h
  refine rn_iload_n (q := 3) 3 rfl zd_X12_rests_1.1.2.1.1 ?_
  refine rn_iconst (v := 1) zd_X12_rests_1.1.2.1.2 rfl ?_
  refine rn_aload_n (q := 0) 0 rfl zd_X12_rests_1.1.2.2.1 ?_
  refine rn_getR zf_X12_101 (Or.inr ⟨_, rfl⟩) k_a0 (zx_12_45 hW k_a0) zd_X12_rests_1.1.2.2.2 ?_
  refine rn_bipush (v := 40) zd_X12_rests_1.2.1.1.1 rfl ?_
  refine rn_iald (zw_12_45 hW k_a0) (by decide) zd_X12_rests_1.2.1.1.2 ?_
  refine rn_ishl zd_X12_rests_1.2.1.2.1 ?_
  rcases zif_e h with ⟨hc6, h⟩ | ⟨hc6, h⟩
  · refine rn_icmp_ge_t (tgt := 100) hc6 zd_X12_rests_1.2.1.2.2 rfl ?_
    cases h
    exact rn_sub (ls' := [(0, .ref a0), (2, .int x2)]) [0, 2] rfl hk
  · refine rn_icmp_ge_f (tgt := 100) hc6 zd_X12_rests_1.2.1.2.2 rfl ?_
    refine rn_aload_n (q := 0) 0 rfl zd_X12_rests_1.2.2.1.1 ?_
    refine rn_iload_n (q := 3) 3 rfl zd_X12_rests_1.2.2.1.2 ?_
    refine rn_iload_n (q := 1) 1 rfl zd_X12_rests_1.2.2.2.1 ?_
    obtain ⟨M7, h8, h⟩ := zbd_e h
    refine rn_callVv (As := [.int x3, .int x1]) (rest := []) zl_X12_364 zm_X12_hides ⟨by decide, by decide⟩ (ci := 12) rfl rfl (by decide) k_a0 rfl rfl (Nat.le_of_ble_eq_true rfl) zd_X12_rests_1.2.2.2.2 (ok_X12_hides hW k_a0 h8) ?_
    refine rn_aload_n (q := 0) 0 rfl zd_X12_rests_2.1.1.1.1 ?_
    refine rn_iconst (v := 1) zd_X12_rests_2.1.1.1.2 rfl ?_
    obtain ⟨M9, h10, h⟩ := zbd_e h
    refine rn_callVv (As := [.int (1 : Int32)]) (rest := []) zl_X12_331 zm_X12_evenings ⟨by decide, by decide⟩ (ci := 12) rfl rfl (by decide) k_a0 rfl rfl (Nat.le_of_ble_eq_true rfl) zd_X12_rests_2.1.1.2.1 (ok_X12_evenings hW k_a0 h10) ?_
    refine rn_iconst (v := 0) zd_X12_rests_2.1.1.2.2 rfl ?_
    refine rn_istore (ls' := [(4, .int (0 : Int32)), (0, .ref a0), (1, .int x1), (2, .int x2), (3, .int x3)]) (by decide) rfl zd_X12_rests_2.1.2.1.1 ?_
    obtain ⟨e15, he15, h⟩ := zbd_e h
    refine rn_sub (ls' := [(0, .ref a0), (1, .int x1), (2, .int x2), (3, .int x3), (4, .int (0 : Int32))]) [1, 2, 3, 4, 0] rfl (zloop_ok (P := P_X12_rests_62 G K R L a0 x1 x2 x3 r S') (Q := Q_X12_rests_62 G K R L a0 x1 x2 x3 r S') (fun v x hx hq => ok_b_X12_rests_62 hW k_a0 hx hq) _ _ _ he15 ?_)
    show Rn G mt_X12_rests 94 [(0, .ref a0), (1, .int x1), (2, .int x2), (3, .int x3)] [] (e15, L, R, K) r S'
    refine rn_iinc (v := (x3 + 1)) (ls' := [(3, .int (x3 + 1)), (0, .ref a0), (1, .int x1), (2, .int x2)]) 3 rfl rfl (by decide) rfl zd_X12_rests_3.1.2.2.1 ?_
    refine rn_goto (tgt := 35) zd_X12_rests_3.1.2.2.2 rfl ?_
    cases h
    exact rn_sub (ls' := [(0, .ref a0), (1, .int x1), (2, .int x2), (3, .int (x3 + 1))]) [1, 2, 3, 0] rfl hk
abbrev P_X12_rests_105 (G : zG) (K : zK) (R : zR) (M : zM) (L : zL) (a0 : Nat) (x2 : Int32) (r : Option Value) (S' : zS) (v : Int32 × Int32) : Prop := Rn G mt_X12_rests 105 [(0, .ref a0), (2, .int x2), (3, .int v.1), (4, .int v.2)] [] (M, L, R, K) r S'
abbrev Q_X12_rests_105 (G : zG) (K : zK) (R : zR) (M : zM) (L : zL) (a0 : Nat) (x2 : Int32) (r : Option Value) (S' : zS) : (Int32) ⊕ (Int32) → Prop := (Sum.elim (fun e => Rn G mt_X12_rests 136 [(4, .int e)] [] (M, L, R, K) r S') (fun e => Rn G mt_X12_rests 148 [(2, .int x2), (3, .int e)] [] (M, L, R, K) r S'))
def b_X12_rests_105 (R : zR) (M : zM) (a0 : Nat) (x2 : Int32) (x3 : Int32) (x4 : Int32) : Option ((Int32 × Int32) ⊕ ((Int32) ⊕ (Int32))) :=
  if ((1 : Int32) <<< ((M (R a0 45) (ztn (40 : Int32))) &&& 31)) ≤ x4 then (
    some (.inr (.inr x3))
  ) else (
    zbd (f_X12_isResting R M a0 x4) fun r18 =>
    if r18 = 0 then (
      some (.inl (x3, (x4 + 1)))
    ) else (
      if x3 = x2 then (
        some (.inr (.inl x4))
      ) else (
        some (.inl ((x3 + 1), (x4 + 1)))
      )
    )
  )
set_option maxRecDepth 4000 in
theorem ok_b_X12_rests_105 {G : zG} {K : zK} {R : zR} {M : zM} {L : zL} (hW : zWT R K) {a0 : Nat} {x2 : Int32} {x3 : Int32} {x4 : Int32} (k_a0 : K[a0]? = some (12, 61)) {r : Option Value} {S' : zS} {x : (Int32 × Int32) ⊕ ((Int32) ⊕ (Int32))} (h : b_X12_rests_105 R M a0 x2 x3 x4 = some x) (hk : Sum.elim (P_X12_rests_105 G K R M L a0 x2 r S') (Q_X12_rests_105 G K R M L a0 x2 r S') x) : P_X12_rests_105 G K R M L a0 x2 r S' (x3, x4) := by
  show Rn G mt_X12_rests 105 [(0, .ref a0), (2, .int x2), (3, .int x3), (4, .int x4)] [] (M, L, R, K) r S'
  unfold b_X12_rests_105 at h
  refine rn_iload 3 rfl zd_X12_rests_3.2.2.1.1 ?_
  refine rn_iconst (v := 1) zd_X12_rests_3.2.2.1.2 rfl ?_
  refine rn_aload_n (q := 0) 0 rfl zd_X12_rests_3.2.2.2.1 ?_
  refine rn_getR zf_X12_101 (Or.inr ⟨_, rfl⟩) k_a0 (zx_12_45 hW k_a0) zd_X12_rests_3.2.2.2.2 ?_
  refine rn_bipush (v := 40) zd_X12_rests_4.1.1.1.1 rfl ?_
  refine rn_iald (zw_12_45 hW k_a0) (by decide) zd_X12_rests_4.1.1.1.2 ?_
  refine rn_ishl zd_X12_rests_4.1.1.2.1 ?_
  rcases zif_e h with ⟨hc17, h⟩ | ⟨hc17, h⟩
  · refine rn_icmp_ge_t (tgt := 148) hc17 zd_X12_rests_4.1.1.2.2 rfl ?_
    cases h
    exact rn_sub (ls' := [(2, .int x2), (3, .int x3)]) [1, 2] rfl hk
  · refine rn_icmp_ge_f (tgt := 148) hc17 zd_X12_rests_4.1.1.2.2 rfl ?_
    refine rn_aload_n (q := 0) 0 rfl zd_X12_rests_4.1.2.1.1 ?_
    refine rn_iload 3 rfl zd_X12_rests_4.1.2.1.2 ?_
    obtain ⟨r18, h19, h⟩ := zbd_e h
    refine rn_callVi (As := [.int x4]) (rest := []) zl_X12_367 zm_X12_isResting ⟨by decide, by decide⟩ (ci := 12) rfl rfl (by decide) k_a0 rfl rfl (Nat.le_of_ble_eq_true rfl) zd_X12_rests_4.1.2.2.1 (ok_X12_isResting hW k_a0 h19) ?_
    rcases zif_e h with ⟨hc20, h⟩ | ⟨hc20, h⟩
    · refine rn_if_ne_f (tgt := 131) hc20 zd_X12_rests_4.1.2.2.2 rfl ?_
      refine rn_goto (tgt := 142) zd_X12_rests_4.2.1.1.1 rfl ?_
      refine rn_iinc (v := (x4 + 1)) (ls' := [(4, .int (x4 + 1)), (0, .ref a0), (2, .int x2), (3, .int x3)]) 3 rfl rfl (by decide) rfl zd_X12_rests_4.2.2.2.2 ?_
      refine rn_goto (tgt := 105) zd_X12_rests_5.1.1.1 rfl ?_
      cases h
      exact rn_sub (ls' := [(0, .ref a0), (2, .int x2), (3, .int x3), (4, .int (x4 + 1))]) [1, 2, 3, 0] rfl hk
    · refine rn_if_ne_t (tgt := 131) hc20 zd_X12_rests_4.1.2.2.2 rfl ?_
      refine rn_iload_n (q := 3) 2 rfl zd_X12_rests_4.2.1.1.2 ?_
      refine rn_iload_n (q := 2) 1 rfl zd_X12_rests_4.2.1.2.1 ?_
      rcases zif_e h with ⟨hc21, h⟩ | ⟨hc21, h⟩
      · refine rn_icmp_ne_f (tgt := 139) hc21 zd_X12_rests_4.2.1.2.2 rfl ?_
        cases h
        exact rn_sub (ls' := [(4, .int x4)]) [3] rfl hk
      · refine rn_icmp_ne_t (tgt := 139) hc21 zd_X12_rests_4.2.1.2.2 rfl ?_
        refine rn_iinc (v := (x3 + 1)) (ls' := [(3, .int (x3 + 1)), (0, .ref a0), (2, .int x2), (4, .int x4)]) 2 rfl rfl (by decide) rfl zd_X12_rests_4.2.2.2.1 ?_
        refine rn_iinc (v := (x4 + 1)) (ls' := [(4, .int (x4 + 1)), (3, .int (x3 + 1)), (0, .ref a0), (2, .int x2)]) 3 rfl rfl (by decide) rfl zd_X12_rests_4.2.2.2.2 ?_
        refine rn_goto (tgt := 105) zd_X12_rests_5.1.1.1 rfl ?_
        cases h
        exact rn_sub (ls' := [(0, .ref a0), (2, .int x2), (3, .int (x3 + 1)), (4, .int (x4 + 1))]) [2, 3, 1, 0] rfl hk
def f_X12_rests (R : zR) (M : zM) (a0 : Nat) (x1 : Int32) (x2 : Int32) : Option (Int32 × zM) :=
  zbd (f_X12_in x1 (1 : Int32) (999 : Int32)) fun r1 =>
  if r1 = 0 then (
    some ((-1 : Int32), M)
  ) else (
    if (-1 : Int32) ≤ x2 then (
      if (M (R a0 45) (ztn (40 : Int32))) ≤ (8 : Int32) then (
        zbd (zloop zN (fun v => b_X12_rests_35 R v.2 a0 x1 x2 v.1) ((0 : Int32), M)) fun e16 =>
        zbd (zloop zN (fun v => b_X12_rests_105 R e16 a0 x2 v.1 v.2) ((0 : Int32), (0 : Int32))) fun e22 =>
        Sum.elim (fun e23 =>
          some (e23, e16)
        ) (fun e24 =>
          if x2 = (-1 : Int32) then (
            some (e24, e16)
          ) else (
            some ((-1 : Int32), e16)
          )
        ) e22
      ) else (
        some ((-2 : Int32), M)
      )
    ) else (
      some ((-1 : Int32), M)
    )
  )
set_option maxRecDepth 4000 in
theorem ok_X12_rests {G : zG} {K : zK} {R : zR} {M : zM} {L : zL} (hW : zWT R K) {a0 : Nat} {x1 : Int32} {x2 : Int32} (k_a0 : K[a0]? = some (12, 61)) {r' : Int32} {M' : zM} (h : f_X12_rests R M a0 x1 x2 = some (r', M')) : Rm G mt_X12_rests [.ref a0, .int x1, .int x2] (M, L, R, K) (some (.int r')) (M', L, R, K) := by
  refine rm_rn rfl rfl (Nat.le_of_ble_eq_true rfl) ?_
  show Rn G mt_X12_rests 0 [(0, .ref a0), (1, .int x1), (2, .int x2)] [] (M, L, R, K) (some (.int r')) (M', L, R, K)
  unfold f_X12_rests at h
  refine rn_iload_n (q := 1) 1 rfl zd_X12_rests_0.1.1.1.1 ?_
  refine rn_iconst (v := 1) zd_X12_rests_0.1.1.1.2 rfl ?_
  refine rn_sipush (v := 999) zd_X12_rests_0.1.1.2.1 rfl ?_
  obtain ⟨r1, h2, h⟩ := zbd_e h
  refine rn_callSi (As := [.int x1, .int (1 : Int32), .int (999 : Int32)]) (rest := []) zl_X12_276 zm_X12_in ⟨by decide, by decide⟩ rfl rfl (Nat.le_of_ble_eq_true rfl) zd_X12_rests_0.1.1.2.2 (ok_X12_in hW h2) ?_
  rcases zif_e h with ⟨hc3, h⟩ | ⟨hc3, h⟩
  · refine rn_if_eq_t (tgt := 16) hc3 zd_X12_rests_0.1.2.1.1 rfl ?_
    refine rn_iconst (v := -1) zd_X12_rests_0.2.1.1.1 rfl ?_
    cases h
    exact rn_iret zd_X12_rests_0.2.1.1.2 rfl
  · refine rn_if_eq_f (tgt := 16) hc3 zd_X12_rests_0.1.2.1.1 rfl ?_
    refine rn_iload_n (q := 2) 2 rfl zd_X12_rests_0.1.2.1.2 ?_
    refine rn_iconst (v := -1) zd_X12_rests_0.1.2.2.1 rfl ?_
    rcases zif_e h with ⟨hc4, h⟩ | ⟨hc4, h⟩
    · refine rn_icmp_ge_t (tgt := 18) hc4 zd_X12_rests_0.1.2.2.2 rfl ?_
      refine rn_aload_n (q := 0) 0 rfl zd_X12_rests_0.2.1.2.1 ?_
      refine rn_getR zf_X12_101 (Or.inr ⟨_, rfl⟩) k_a0 (zx_12_45 hW k_a0) zd_X12_rests_0.2.1.2.2 ?_
      refine rn_bipush (v := 40) zd_X12_rests_0.2.2.1.1 rfl ?_
      refine rn_iald (zw_12_45 hW k_a0) (by decide) zd_X12_rests_0.2.2.1.2 ?_
      refine rn_bipush (v := 8) zd_X12_rests_0.2.2.2.1 rfl ?_
      rcases zif_e h with ⟨hc5, h⟩ | ⟨hc5, h⟩
      · refine rn_icmp_le_t (tgt := 33) hc5 zd_X12_rests_0.2.2.2.2 rfl ?_
        refine rn_iconst (v := 0) zd_X12_rests_1.1.1.2.1 rfl ?_
        refine rn_istore_n (q := 3) (ls' := [(3, .int (0 : Int32)), (0, .ref a0), (1, .int x1), (2, .int x2)]) (by decide) rfl zd_X12_rests_1.1.1.2.2 ?_
        obtain ⟨e16, he16, h⟩ := zbd_e h
        refine rn_sub (ls' := [(0, .ref a0), (1, .int x1), (2, .int x2), (3, .int (0 : Int32))]) [1, 2, 3, 0] rfl (zloop_ok (P := P_X12_rests_35 G K R L a0 x1 x2 (some (.int r')) (M', L, R, K)) (Q := Q_X12_rests_35 G K R L a0 x1 x2 (some (.int r')) (M', L, R, K)) (fun v x hx hq => ok_b_X12_rests_35 hW k_a0 hx hq) _ _ _ he16 ?_)
        show Rn G mt_X12_rests 100 [(0, .ref a0), (2, .int x2)] [] (e16, L, R, K) (some (.int r')) (M', L, R, K)
        refine rn_iconst (v := 0) zd_X12_rests_3.2.1.1.1 rfl ?_
        refine rn_istore_n (q := 3) (ls' := [(3, .int (0 : Int32)), (0, .ref a0), (2, .int x2)]) (by decide) rfl zd_X12_rests_3.2.1.1.2 ?_
        refine rn_iconst (v := 0) zd_X12_rests_3.2.1.2.1 rfl ?_
        refine rn_istore (ls' := [(4, .int (0 : Int32)), (3, .int (0 : Int32)), (0, .ref a0), (2, .int x2)]) (by decide) rfl zd_X12_rests_3.2.1.2.2 ?_
        obtain ⟨e22, he22, h⟩ := zbd_e h
        refine rn_sub (ls' := [(0, .ref a0), (2, .int x2), (3, .int (0 : Int32)), (4, .int (0 : Int32))]) [2, 3, 1, 0] rfl (zloop_ok (P := P_X12_rests_105 G K R e16 L a0 x2 (some (.int r')) (M', L, R, K)) (Q := Q_X12_rests_105 G K R e16 L a0 x2 (some (.int r')) (M', L, R, K)) (fun v x hx hq => ok_b_X12_rests_105 hW k_a0 hx hq) _ _ _ he22 ?_)
        rcases e22 with e23 | e24
        · rw [Sum.elim_inl] at h
          show Rn G mt_X12_rests 136 [(4, .int e23)] [] (e16, L, R, K) (some (.int r')) (M', L, R, K)
          refine rn_iload 0 rfl zd_X12_rests_4.2.2.1.1 ?_
          cases h
          exact rn_iret zd_X12_rests_4.2.2.1.2 rfl
        · rw [Sum.elim_inr] at h
          show Rn G mt_X12_rests 148 [(2, .int x2), (3, .int e24)] [] (e16, L, R, K) (some (.int r')) (M', L, R, K)
          refine rn_iload_n (q := 2) 0 rfl zd_X12_rests_5.1.1.2 ?_
          refine rn_iconst (v := -1) zd_X12_rests_5.1.2.1 rfl ?_
          rcases zif_e h with ⟨hc25, h⟩ | ⟨hc25, h⟩
          · refine rn_icmp_ne_f (tgt := 157) hc25 zd_X12_rests_5.1.2.2 rfl ?_
            refine rn_iload_n (q := 3) 1 rfl zd_X12_rests_5.2.1.1 ?_
            refine rn_goto (tgt := 158) zd_X12_rests_5.2.1.2 rfl ?_
            cases h
            exact rn_iret zd_X12_rests_5.2.2.2 rfl
          · refine rn_icmp_ne_t (tgt := 157) hc25 zd_X12_rests_5.1.2.2 rfl ?_
            refine rn_iconst (v := -1) zd_X12_rests_5.2.2.1 rfl ?_
            cases h
            exact rn_iret zd_X12_rests_5.2.2.2 rfl
      · refine rn_icmp_le_f (tgt := 33) hc5 zd_X12_rests_0.2.2.2.2 rfl ?_
        refine rn_bipush (v := -2) zd_X12_rests_1.1.1.1.1 rfl ?_
        cases h
        exact rn_iret zd_X12_rests_1.1.1.1.2 rfl
    · refine rn_icmp_ge_f (tgt := 18) hc4 zd_X12_rests_0.1.2.2.2 rfl ?_
      refine rn_iconst (v := -1) zd_X12_rests_0.2.1.1.1 rfl ?_
      cases h
      exact rn_iret zd_X12_rests_0.2.1.1.2 rfl
def f_X12_tell_ (R : zR) (M : zM) (a0 : Nat) (x1 : Int32) (x2 : Int32) : Option (Int32 × zM) :=
  if (M a0 53) = (20 : Int32) then (
    some ((-1 : Int32), M)
  ) else (
    zbd (f_X12_isHouse R M a0 x1) fun r2 =>
    if r2 = 0 then (
      some ((-1 : Int32), M)
    ) else (
      zbd (f_X12_in x2 (0 : Int32) (9999 : Int32)) fun r5 =>
      if r5 = 0 then (
        some ((-1 : Int32), M)
      ) else (
        zck (zin (M a0 53) 20) <|
        zlt (zup M (R a0 54) (ztn (M a0 53)) x1) fun M9 =>
        zck (zin (M9 a0 53) 20) <|
        zlt (zup M9 (R a0 55) (ztn (M9 a0 53)) x2) fun M11 =>
        zlt (zup M11 a0 53 ((M11 a0 53) + (1 : Int32))) fun M12 =>
        some (((M12 a0 53) - (1 : Int32)), M12)
      )
    )
  )
set_option maxRecDepth 4000 in
theorem ok_X12_tell_ {G : zG} {K : zK} {R : zR} {M : zM} {L : zL} (hW : zWT R K) {a0 : Nat} {x1 : Int32} {x2 : Int32} (k_a0 : K[a0]? = some (12, 61)) {r' : Int32} {M' : zM} (h : f_X12_tell_ R M a0 x1 x2 = some (r', M')) : Rm G mt_X12_tell_ [.ref a0, .int x1, .int x2] (M, L, R, K) (some (.int r')) (M', L, R, K) := by
  refine rm_rn rfl rfl (Nat.le_of_ble_eq_true rfl) ?_
  show Rn G mt_X12_tell_ 0 [(0, .ref a0), (1, .int x1), (2, .int x2)] [] (M, L, R, K) (some (.int r')) (M', L, R, K)
  unfold f_X12_tell_ at h
  refine rn_aload_n (q := 0) 0 rfl zd_X12_tell__0.1.1.1.1 ?_
  refine rn_getI zf_X12_233 (Or.inl rfl) k_a0 zd_X12_tell__0.1.1.1.2 ?_
  refine rn_bipush (v := 20) zd_X12_tell__0.1.1.2.1 rfl ?_
  rcases zif_e h with ⟨hc1, h⟩ | ⟨hc1, h⟩
  · refine rn_icmp_eq_t (tgt := 28) hc1 zd_X12_tell__0.1.1.2.2 rfl ?_
    refine rn_iconst (v := -1) zd_X12_tell__0.2.2.1.2 rfl ?_
    cases h
    exact rn_iret zd_X12_tell__0.2.2.2.1 rfl
  · refine rn_icmp_eq_f (tgt := 28) hc1 zd_X12_tell__0.1.1.2.2 rfl ?_
    refine rn_aload_n (q := 0) 0 rfl zd_X12_tell__0.1.2.1.1 ?_
    refine rn_iload_n (q := 1) 1 rfl zd_X12_tell__0.1.2.1.2 ?_
    obtain ⟨r2, h3, h⟩ := zbd_e h
    refine rn_callVi (As := [.int x1]) (rest := []) zl_X12_325 zm_X12_isHouse ⟨by decide, by decide⟩ (ci := 12) rfl rfl (by decide) k_a0 rfl rfl (Nat.le_of_ble_eq_true rfl) zd_X12_tell__0.1.2.2.1 (ok_X12_isHouse hW k_a0 h3) ?_
    rcases zif_e h with ⟨hc4, h⟩ | ⟨hc4, h⟩
    · refine rn_if_eq_t (tgt := 28) hc4 zd_X12_tell__0.1.2.2.2 rfl ?_
      refine rn_iconst (v := -1) zd_X12_tell__0.2.2.1.2 rfl ?_
      cases h
      exact rn_iret zd_X12_tell__0.2.2.2.1 rfl
    · refine rn_if_eq_f (tgt := 28) hc4 zd_X12_tell__0.1.2.2.2 rfl ?_
      refine rn_iload_n (q := 2) 2 rfl zd_X12_tell__0.2.1.1.1 ?_
      refine rn_iconst (v := 0) zd_X12_tell__0.2.1.1.2 rfl ?_
      refine rn_sipush (v := 9999) zd_X12_tell__0.2.1.2.1 rfl ?_
      obtain ⟨r5, h6, h⟩ := zbd_e h
      refine rn_callSi (As := [.int x2, .int (0 : Int32), .int (9999 : Int32)]) (rest := []) zl_X12_276 zm_X12_in ⟨by decide, by decide⟩ rfl rfl (Nat.le_of_ble_eq_true rfl) zd_X12_tell__0.2.1.2.2 (ok_X12_in hW h6) ?_
      rcases zif_e h with ⟨hc7, h⟩ | ⟨hc7, h⟩
      · refine rn_if_ne_f (tgt := 30) hc7 zd_X12_tell__0.2.2.1.1 rfl ?_
        refine rn_iconst (v := -1) zd_X12_tell__0.2.2.1.2 rfl ?_
        cases h
        exact rn_iret zd_X12_tell__0.2.2.2.1 rfl
      · refine rn_if_ne_t (tgt := 30) hc7 zd_X12_tell__0.2.2.1.1 rfl ?_
        refine rn_aload_n (q := 0) 0 rfl zd_X12_tell__0.2.2.2.2 ?_
        refine rn_getR zf_X12_119 (Or.inr ⟨_, rfl⟩) k_a0 (zx_12_54 hW k_a0) zd_X12_tell__1.1.1.1.1 ?_
        refine rn_aload_n (q := 0) 0 rfl zd_X12_tell__1.1.1.1.2 ?_
        refine rn_getI zf_X12_233 (Or.inl rfl) k_a0 zd_X12_tell__1.1.1.2.1 ?_
        refine rn_iload_n (q := 1) 1 rfl zd_X12_tell__1.1.1.2.2 ?_
        obtain ⟨hc8, h⟩ := zck_e h
        obtain ⟨M9, hM9, h⟩ := zlt_e h
        refine rn_iast hM9 (zw_12_54 hW k_a0) hc8 zd_X12_tell__1.1.2.1.1 ?_
        refine rn_aload_n (q := 0) 0 rfl zd_X12_tell__1.1.2.1.2 ?_
        refine rn_getR zf_X12_122 (Or.inr ⟨_, rfl⟩) k_a0 (zx_12_55 hW k_a0) zd_X12_tell__1.1.2.2.1 ?_
        refine rn_aload_n (q := 0) 0 rfl zd_X12_tell__1.1.2.2.2 ?_
        refine rn_getI zf_X12_233 (Or.inl rfl) k_a0 zd_X12_tell__1.2.1.1.1 ?_
        refine rn_iload_n (q := 2) 2 rfl zd_X12_tell__1.2.1.1.2 ?_
        obtain ⟨hc10, h⟩ := zck_e h
        obtain ⟨M11, hM11, h⟩ := zlt_e h
        refine rn_iast hM11 (zw_12_55 hW k_a0) hc10 zd_X12_tell__1.2.1.2.1 ?_
        refine rn_aload_n (q := 0) 0 rfl zd_X12_tell__1.2.1.2.2 ?_
        refine rn_dup zd_X12_tell__1.2.2.1.1 rfl ?_
        refine rn_getI zf_X12_233 (Or.inl rfl) k_a0 zd_X12_tell__1.2.2.1.2 ?_
        refine rn_iconst (v := 1) zd_X12_tell__1.2.2.2.1 rfl ?_
        refine rn_iadd zd_X12_tell__1.2.2.2.2 ?_
        obtain ⟨M12, hM12, h⟩ := zlt_e h
        refine rn_putI hM12 zf_X12_233 k_a0 zd_X12_tell__2.1.1 ?_
        refine rn_aload_n (q := 0) 0 rfl zd_X12_tell__2.1.2.1 ?_
        refine rn_getI zf_X12_233 (Or.inl rfl) k_a0 zd_X12_tell__2.1.2.2 ?_
        refine rn_iconst (v := 1) zd_X12_tell__2.2.1 rfl ?_
        refine rn_isub zd_X12_tell__2.2.2.1 ?_
        cases h
        exact rn_iret zd_X12_tell__2.2.2.2 rfl
def f_X12_forget (M : zM) (a0 : Nat) : Option (Int32 × zM) :=
  zlt (zup M a0 53 (0 : Int32)) fun M1 =>
  some ((M a0 53), M1)
set_option maxRecDepth 4000 in
theorem ok_X12_forget {G : zG} {K : zK} {R : zR} {M : zM} {L : zL} (hW : zWT R K) {a0 : Nat} (k_a0 : K[a0]? = some (12, 61)) {r' : Int32} {M' : zM} (h : f_X12_forget M a0 = some (r', M')) : Rm G mt_X12_forget [.ref a0] (M, L, R, K) (some (.int r')) (M', L, R, K) := by
  refine rm_rn rfl rfl (Nat.le_of_ble_eq_true rfl) ?_
  show Rn G mt_X12_forget 0 [(0, .ref a0)] [] (M, L, R, K) (some (.int r')) (M', L, R, K)
  unfold f_X12_forget at h
  refine rn_aload_n (q := 0) 0 rfl zd_X12_forget_0.1.1.1 ?_
  refine rn_getI zf_X12_233 (Or.inl rfl) k_a0 zd_X12_forget_0.1.1.2 ?_
  refine rn_istore_n (q := 1) (ls' := [(1, .int (M a0 53)), (0, .ref a0)]) (by decide) rfl zd_X12_forget_0.1.2.1 ?_
  refine rn_aload_n (q := 0) 1 rfl zd_X12_forget_0.1.2.2 ?_
  refine rn_iconst (v := 0) zd_X12_forget_0.2.1.1 rfl ?_
  obtain ⟨M1, hM1, h⟩ := zlt_e h
  refine rn_putI hM1 zf_X12_233 k_a0 zd_X12_forget_0.2.1.2 ?_
  refine rn_iload_n (q := 1) 0 rfl zd_X12_forget_0.2.2.1 ?_
  cases h
  exact rn_iret zd_X12_forget_0.2.2.2 rfl
abbrev P_X12_rowsOf_4 (G : zG) (K : zK) (R : zR) (M : zM) (L : zL) (a0 : Nat) (x1 : Int32) (r : Option Value) (S' : zS) (v : Int32 × Int32) : Prop := Rn G mt_X12_rowsOf 4 [(0, .ref a0), (1, .int x1), (2, .int v.1), (3, .int v.2)] [] (M, L, R, K) r S'
abbrev Q_X12_rowsOf_4 (G : zG) (K : zK) (R : zR) (M : zM) (L : zL) (a0 : Nat) (x1 : Int32) (r : Option Value) (S' : zS) : (Unit) ⊕ (Int32) → Prop := (Sum.elim (fun e => Rn G mt_X12_rowsOf 28 [] [] (M, L, R, K) r S') (fun e => Rn G mt_X12_rowsOf 37 [(2, .int e)] [] (M, L, R, K) r S'))
def b_X12_rowsOf_4 (R : zR) (M : zM) (a0 : Nat) (x1 : Int32) (x2 : Int32) (x3 : Int32) : Option ((Int32 × Int32) ⊕ ((Unit) ⊕ (Int32))) :=
  if (M (R a0 45) (ztn (40 : Int32))) ≤ x3 then (
    some (.inr (.inr x2))
  ) else (
    if (x2 * (x1 + (1 : Int32))) ≤ (200000 : Int32) then (
      some (.inl ((x2 * (x1 + (1 : Int32))), (x3 + 1)))
    ) else (
      some (.inr (.inl ()))
    )
  )
set_option maxRecDepth 4000 in
theorem ok_b_X12_rowsOf_4 {G : zG} {K : zK} {R : zR} {M : zM} {L : zL} (hW : zWT R K) {a0 : Nat} {x1 : Int32} {x2 : Int32} {x3 : Int32} (k_a0 : K[a0]? = some (12, 61)) {r : Option Value} {S' : zS} {x : (Int32 × Int32) ⊕ ((Unit) ⊕ (Int32))} (h : b_X12_rowsOf_4 R M a0 x1 x2 x3 = some x) (hk : Sum.elim (P_X12_rowsOf_4 G K R M L a0 x1 r S') (Q_X12_rowsOf_4 G K R M L a0 x1 r S') x) : P_X12_rowsOf_4 G K R M L a0 x1 r S' (x2, x3) := by
  show Rn G mt_X12_rowsOf 4 [(0, .ref a0), (1, .int x1), (2, .int x2), (3, .int x3)] [] (M, L, R, K) r S'
  unfold b_X12_rowsOf_4 at h
  refine rn_iload_n (q := 3) 3 rfl zd_X12_rowsOf_0.1.2.1.1 ?_
  refine rn_aload_n (q := 0) 0 rfl zd_X12_rowsOf_0.1.2.1.2 ?_
  refine rn_getR zf_X12_101 (Or.inr ⟨_, rfl⟩) k_a0 (zx_12_45 hW k_a0) zd_X12_rowsOf_0.1.2.2.1 ?_
  refine rn_bipush (v := 40) zd_X12_rowsOf_0.1.2.2.2 rfl ?_
  refine rn_iald (zw_12_45 hW k_a0) (by decide) zd_X12_rowsOf_0.2.1.1.1 ?_
  rcases zif_e h with ⟨hc1, h⟩ | ⟨hc1, h⟩
  · refine rn_icmp_ge_t (tgt := 37) hc1 zd_X12_rowsOf_0.2.1.1.2 rfl ?_
    cases h
    exact rn_sub (ls' := [(2, .int x2)]) [2] rfl hk
  · refine rn_icmp_ge_f (tgt := 37) hc1 zd_X12_rowsOf_0.2.1.1.2 rfl ?_
    refine rn_iload_n (q := 2) 2 rfl zd_X12_rowsOf_0.2.1.2.1 ?_
    refine rn_iload_n (q := 1) 1 rfl zd_X12_rowsOf_0.2.1.2.2 ?_
    refine rn_iconst (v := 1) zd_X12_rowsOf_0.2.2.1.1 rfl ?_
    refine rn_iadd zd_X12_rowsOf_0.2.2.1.2 ?_
    refine rn_imul zd_X12_rowsOf_0.2.2.2.1 ?_
    refine rn_istore_n (q := 2) (ls' := [(2, .int (x2 * (x1 + (1 : Int32)))), (0, .ref a0), (1, .int x1), (3, .int x3)]) (by decide) rfl zd_X12_rowsOf_0.2.2.2.2 ?_
    refine rn_iload_n (q := 2) 0 rfl zd_X12_rowsOf_1.1.1.1 ?_
    refine rn_ldcw (v := 200000) zk_X12_370 zd_X12_rowsOf_1.1.1.2 ?_
    rcases zif_e h with ⟨hc2, h⟩ | ⟨hc2, h⟩
    · refine rn_icmp_le_t (tgt := 31) hc2 zd_X12_rowsOf_1.1.2.1 rfl ?_
      refine rn_iinc (v := (x3 + 1)) (ls' := [(3, .int (x3 + 1)), (2, .int (x2 * (x1 + (1 : Int32)))), (0, .ref a0), (1, .int x1)]) 3 rfl rfl (by decide) rfl zd_X12_rowsOf_1.2.1.2 ?_
      refine rn_goto (tgt := 4) zd_X12_rowsOf_1.2.2.1 rfl ?_
      cases h
      exact rn_sub (ls' := [(0, .ref a0), (1, .int x1), (2, .int (x2 * (x1 + (1 : Int32)))), (3, .int (x3 + 1))]) [2, 3, 1, 0] rfl hk
    · refine rn_icmp_le_f (tgt := 31) hc2 zd_X12_rowsOf_1.1.2.1 rfl ?_
      cases h
      exact rn_sub (ls' := []) [] rfl hk
def f_X12_rowsOf (R : zR) (M : zM) (a0 : Nat) (x1 : Int32) : Option (Int32) :=
  zbd (zloop zN (fun v => b_X12_rowsOf_4 R M a0 x1 v.1 v.2) ((1 : Int32), (0 : Int32))) fun e3 =>
  Sum.elim (fun e4 =>
    some (-2 : Int32)
  ) (fun e5 =>
    some e5
  ) e3
set_option maxRecDepth 4000 in
theorem ok_X12_rowsOf {G : zG} {K : zK} {R : zR} {M : zM} {L : zL} (hW : zWT R K) {a0 : Nat} {x1 : Int32} (k_a0 : K[a0]? = some (12, 61)) {r' : Int32} (h : f_X12_rowsOf R M a0 x1 = some r') : Rm G mt_X12_rowsOf [.ref a0, .int x1] (M, L, R, K) (some (.int r')) (M, L, R, K) := by
  refine rm_rn rfl rfl (Nat.le_of_ble_eq_true rfl) ?_
  show Rn G mt_X12_rowsOf 0 [(0, .ref a0), (1, .int x1)] [] (M, L, R, K) (some (.int r')) (M, L, R, K)
  unfold f_X12_rowsOf at h
  refine rn_iconst (v := 1) zd_X12_rowsOf_0.1.1.1.1 rfl ?_
  refine rn_istore_n (q := 2) (ls' := [(2, .int (1 : Int32)), (0, .ref a0), (1, .int x1)]) (by decide) rfl zd_X12_rowsOf_0.1.1.1.2 ?_
  refine rn_iconst (v := 0) zd_X12_rowsOf_0.1.1.2.1 rfl ?_
  refine rn_istore_n (q := 3) (ls' := [(3, .int (0 : Int32)), (2, .int (1 : Int32)), (0, .ref a0), (1, .int x1)]) (by decide) rfl zd_X12_rowsOf_0.1.1.2.2 ?_
  obtain ⟨e3, he3, h⟩ := zbd_e h
  refine rn_sub (ls' := [(0, .ref a0), (1, .int x1), (2, .int (1 : Int32)), (3, .int (0 : Int32))]) [2, 3, 1, 0] rfl (zloop_ok (P := P_X12_rowsOf_4 G K R M L a0 x1 (some (.int r')) (M, L, R, K)) (Q := Q_X12_rowsOf_4 G K R M L a0 x1 (some (.int r')) (M, L, R, K)) (fun v x hx hq => ok_b_X12_rowsOf_4 hW k_a0 hx hq) _ _ _ he3 ?_)
  rcases e3 with e4 | e5
  · rw [Sum.elim_inl] at h
    show Rn G mt_X12_rowsOf 28 [] [] (M, L, R, K) (some (.int r')) (M, L, R, K)
    refine rn_bipush (v := -2) zd_X12_rowsOf_1.1.2.2 rfl ?_
    cases h
    exact rn_iret zd_X12_rowsOf_1.2.1.1 rfl
  · rw [Sum.elim_inr] at h
    show Rn G mt_X12_rowsOf 37 [(2, .int e5)] [] (M, L, R, K) (some (.int r')) (M, L, R, K)
    refine rn_iload_n (q := 2) 0 rfl zd_X12_rowsOf_1.2.2.2.1 ?_
    cases h
    exact rn_iret zd_X12_rowsOf_1.2.2.2.2 rfl
abbrev P_X12_takesRow_9 (G : zG) (K : zK) (R : zR) (L : zL) (a0 : Nat) (x2 : Int32) (r : Option Value) (S' : zS) (v : Int32 × Int32 × zM) : Prop := Rn G mt_X12_takesRow 9 [(0, .ref a0), (2, .int x2), (3, .int v.1), (4, .int v.2.1)] [] (v.2.2, L, R, K) r S'
abbrev Q_X12_takesRow_9 (G : zG) (K : zK) (R : zR) (L : zL) (a0 : Nat) (x2 : Int32) (r : Option Value) (S' : zS) : (zM) → Prop := (fun e => Rn G mt_X12_takesRow 56 [] [] (e, L, R, K) r S')
def b_X12_takesRow_9 (R : zR) (M : zM) (a0 : Nat) (x2 : Int32) (x3 : Int32) (x4 : Int32) : Option ((Int32 × Int32 × zM) ⊕ ((zM))) :=
  if (M (R a0 46) (ztn (40 : Int32))) ≤ x4 then (
    some (.inr M)
  ) else (
    zck (znz (x2 + (1 : Int32))) <|
    zck (zin x4 60) <|
    zlt (zup M (R a0 46) (ztn x4) (x3 - x3 / (x2 + (1 : Int32)) * (x2 + (1 : Int32)))) fun M6 =>
    zck (zin ((10 : Int32) + x4) 60) <|
    zlt (zup M6 (R a0 46) (ztn ((10 : Int32) + x4)) (0 : Int32)) fun M8 =>
    zck (znz (x2 + (1 : Int32))) <|
    some (.inl ((x3 / (x2 + (1 : Int32))), (x4 + 1), M8))
  )
set_option maxRecDepth 4000 in
theorem ok_b_X12_takesRow_9 {G : zG} {K : zK} {R : zR} {M : zM} {L : zL} (hW : zWT R K) {a0 : Nat} {x2 : Int32} {x3 : Int32} {x4 : Int32} (k_a0 : K[a0]? = some (12, 61)) {r : Option Value} {S' : zS} {x : (Int32 × Int32 × zM) ⊕ ((zM))} (h : b_X12_takesRow_9 R M a0 x2 x3 x4 = some x) (hk : Sum.elim (P_X12_takesRow_9 G K R L a0 x2 r S') (Q_X12_takesRow_9 G K R L a0 x2 r S') x) : P_X12_takesRow_9 G K R L a0 x2 r S' (x3, x4, M) := by
  show Rn G mt_X12_takesRow 9 [(0, .ref a0), (2, .int x2), (3, .int x3), (4, .int x4)] [] (M, L, R, K) r S'
  unfold b_X12_takesRow_9 at h
  refine rn_iload 3 rfl zd_X12_takesRow_0.1.2.2.1 ?_
  refine rn_aload_n (q := 0) 0 rfl zd_X12_takesRow_0.1.2.2.2 ?_
  refine rn_getR zf_X12_104 (Or.inr ⟨_, rfl⟩) k_a0 (zx_12_46 hW k_a0) zd_X12_takesRow_0.2.1.1.1 ?_
  refine rn_bipush (v := 40) zd_X12_takesRow_0.2.1.1.2 rfl ?_
  refine rn_iald (zw_12_46 hW k_a0) (by decide) zd_X12_takesRow_0.2.1.2.1 ?_
  rcases zif_e h with ⟨hc3, h⟩ | ⟨hc3, h⟩
  · refine rn_icmp_ge_t (tgt := 56) hc3 zd_X12_takesRow_0.2.1.2.2 rfl ?_
    cases h
    exact rn_sub (ls' := []) [] rfl hk
  · refine rn_icmp_ge_f (tgt := 56) hc3 zd_X12_takesRow_0.2.1.2.2 rfl ?_
    refine rn_aload_n (q := 0) 0 rfl zd_X12_takesRow_0.2.2.1.1 ?_
    refine rn_getR zf_X12_104 (Or.inr ⟨_, rfl⟩) k_a0 (zx_12_46 hW k_a0) zd_X12_takesRow_0.2.2.1.2 ?_
    refine rn_iload 3 rfl zd_X12_takesRow_0.2.2.2.1 ?_
    refine rn_iload_n (q := 3) 2 rfl zd_X12_takesRow_0.2.2.2.2 ?_
    refine rn_iload_n (q := 2) 1 rfl zd_X12_takesRow_1.1.1.1.1 ?_
    refine rn_iconst (v := 1) zd_X12_takesRow_1.1.1.1.2 rfl ?_
    refine rn_iadd zd_X12_takesRow_1.1.1.2.1 ?_
    obtain ⟨hc4, h⟩ := zck_e h
    refine rn_irem zd_X12_takesRow_1.1.1.2.2 (znz_e hc4) ?_
    obtain ⟨hc5, h⟩ := zck_e h
    obtain ⟨M6, hM6, h⟩ := zlt_e h
    refine rn_iast hM6 (zw_12_46 hW k_a0) hc5 zd_X12_takesRow_1.1.2.1.1 ?_
    refine rn_aload_n (q := 0) 0 rfl zd_X12_takesRow_1.1.2.1.2 ?_
    refine rn_getR zf_X12_104 (Or.inr ⟨_, rfl⟩) k_a0 (zx_12_46 hW k_a0) zd_X12_takesRow_1.1.2.2.1 ?_
    refine rn_bipush (v := 10) zd_X12_takesRow_1.1.2.2.2 rfl ?_
    refine rn_iload 3 rfl zd_X12_takesRow_1.2.1.1.1 ?_
    refine rn_iadd zd_X12_takesRow_1.2.1.1.2 ?_
    refine rn_iconst (v := 0) zd_X12_takesRow_1.2.1.2.1 rfl ?_
    obtain ⟨hc7, h⟩ := zck_e h
    obtain ⟨M8, hM8, h⟩ := zlt_e h
    refine rn_iast hM8 (zw_12_46 hW k_a0) hc7 zd_X12_takesRow_1.2.1.2.2 ?_
    refine rn_iload_n (q := 3) 2 rfl zd_X12_takesRow_1.2.2.1.1 ?_
    refine rn_iload_n (q := 2) 1 rfl zd_X12_takesRow_1.2.2.1.2 ?_
    refine rn_iconst (v := 1) zd_X12_takesRow_1.2.2.2.1 rfl ?_
    refine rn_iadd zd_X12_takesRow_1.2.2.2.2 ?_
    obtain ⟨hc9, h⟩ := zck_e h
    refine rn_idiv zd_X12_takesRow_2.1.1 (znz_e hc9) ?_
    refine rn_istore_n (q := 3) (ls' := [(3, .int (x3 / (x2 + (1 : Int32)))), (0, .ref a0), (2, .int x2), (4, .int x4)]) (by decide) rfl zd_X12_takesRow_2.1.2 ?_
    refine rn_iinc (v := (x4 + 1)) (ls' := [(4, .int (x4 + 1)), (3, .int (x3 / (x2 + (1 : Int32)))), (0, .ref a0), (2, .int x2)]) 3 rfl rfl (by decide) rfl zd_X12_takesRow_2.2.1 ?_
    refine rn_goto (tgt := 9) zd_X12_takesRow_2.2.2.1 rfl ?_
    cases h
    exact rn_sub (ls' := [(0, .ref a0), (2, .int x2), (3, .int (x3 / (x2 + (1 : Int32)))), (4, .int (x4 + 1))]) [2, 3, 1, 0] rfl hk
def f_X12_takesRow (R : zR) (M : zM) (a0 : Nat) (x1 : Int32) (x2 : Int32) : Option (zM) :=
  zbd (f_X12_copies R M a0) fun M1 =>
  zbd (zloop zN (fun v => b_X12_takesRow_9 R v.2.2 a0 x2 v.1 v.2.1) (x1, (0 : Int32), M1)) fun e10 =>
  some e10
set_option maxRecDepth 4000 in
theorem ok_X12_takesRow {G : zG} {K : zK} {R : zR} {M : zM} {L : zL} (hW : zWT R K) {a0 : Nat} {x1 : Int32} {x2 : Int32} (k_a0 : K[a0]? = some (12, 61)) {M' : zM} (h : f_X12_takesRow R M a0 x1 x2 = some M') : Rm G mt_X12_takesRow [.ref a0, .int x1, .int x2] (M, L, R, K) none (M', L, R, K) := by
  refine rm_rn rfl rfl (Nat.le_of_ble_eq_true rfl) ?_
  show Rn G mt_X12_takesRow 0 [(0, .ref a0), (1, .int x1), (2, .int x2)] [] (M, L, R, K) none (M', L, R, K)
  unfold f_X12_takesRow at h
  refine rn_aload_n (q := 0) 0 rfl zd_X12_takesRow_0.1.1.1.1 ?_
  obtain ⟨M1, h2, h⟩ := zbd_e h
  refine rn_callVv (As := []) (rest := []) zl_X12_328 zm_X12_copies ⟨by decide, by decide⟩ (ci := 12) rfl rfl (by decide) k_a0 rfl rfl (Nat.le_of_ble_eq_true rfl) zd_X12_takesRow_0.1.1.1.2 (ok_X12_copies hW k_a0 h2) ?_
  refine rn_iload_n (q := 1) 1 rfl zd_X12_takesRow_0.1.1.2.1 ?_
  refine rn_istore_n (q := 3) (ls' := [(3, .int x1), (0, .ref a0), (1, .int x1), (2, .int x2)]) (by decide) rfl zd_X12_takesRow_0.1.1.2.2 ?_
  refine rn_iconst (v := 0) zd_X12_takesRow_0.1.2.1.1 rfl ?_
  refine rn_istore (ls' := [(4, .int (0 : Int32)), (3, .int x1), (0, .ref a0), (1, .int x1), (2, .int x2)]) (by decide) rfl zd_X12_takesRow_0.1.2.1.2 ?_
  obtain ⟨e10, he10, h⟩ := zbd_e h
  refine rn_sub (ls' := [(0, .ref a0), (2, .int x2), (3, .int x1), (4, .int (0 : Int32))]) [2, 4, 1, 0] rfl (zloop_ok (P := P_X12_takesRow_9 G K R L a0 x2 none (M', L, R, K)) (Q := Q_X12_takesRow_9 G K R L a0 x2 none (M', L, R, K)) (fun v x hx hq => ok_b_X12_takesRow_9 hW k_a0 hx hq) _ _ _ he10 ?_)
  show Rn G mt_X12_takesRow 56 [] [] (e10, L, R, K) none (M', L, R, K)
  cases h
  exact rn_vret zd_X12_takesRow_2.2.2.2 rfl
abbrev P_X12_fillsFits_16 (G : zG) (K : zK) (R : zR) (L : zL) (a0 : Nat) (x1 : Int32) (x2 : Int32) (x3 : Int32) (r : Option Value) (S' : zS) (v : Int32 × zM) : Prop := Rn G mt_X12_fillsFits 16 [(0, .ref a0), (1, .int x1), (2, .int x2), (3, .int x3), (4, .int v.1)] [] (v.2, L, R, K) r S'
abbrev Q_X12_fillsFits_16 (G : zG) (K : zK) (R : zR) (L : zL) (a0 : Nat) (x1 : Int32) (x2 : Int32) (x3 : Int32) (r : Option Value) (S' : zS) : (zM) → Prop := (fun e => Rn G mt_X12_fillsFits 54 [(0, .ref a0), (1, .int x1), (2, .int x2), (3, .int x3)] [] (e, L, R, K) r S')
def b_X12_fillsFits_16 (R : zR) (M : zM) (a0 : Nat) (x1 : Int32) (x2 : Int32) (x3 : Int32) (x4 : Int32) : Option ((Int32 × zM) ⊕ ((zM))) :=
  if (10 : Int32) ≤ x4 then (
    some (.inr M)
  ) else (
    zck (zin x4 10) <|
    zlt (zup M (R a0 56) (ztn x4) (-1 : Int32)) fun M6 =>
    zck (zin x4 10) <|
    zlt (zup M6 (R a0 57) (ztn x4) (100 : Int32)) fun M8 =>
    zck (zin x4 10) <|
    zlt (zup M8 (R a0 58) (ztn x4) (0 : Int32)) fun M10 =>
    some (.inl ((x4 + 1), M10))
  )
set_option maxRecDepth 4000 in
theorem ok_b_X12_fillsFits_16 {G : zG} {K : zK} {R : zR} {M : zM} {L : zL} (hW : zWT R K) {a0 : Nat} {x1 : Int32} {x2 : Int32} {x3 : Int32} {x4 : Int32} (k_a0 : K[a0]? = some (12, 61)) {r : Option Value} {S' : zS} {x : (Int32 × zM) ⊕ ((zM))} (h : b_X12_fillsFits_16 R M a0 x1 x2 x3 x4 = some x) (hk : Sum.elim (P_X12_fillsFits_16 G K R L a0 x1 x2 x3 r S') (Q_X12_fillsFits_16 G K R L a0 x1 x2 x3 r S') x) : P_X12_fillsFits_16 G K R L a0 x1 x2 x3 r S' (x4, M) := by
  show Rn G mt_X12_fillsFits 16 [(0, .ref a0), (1, .int x1), (2, .int x2), (3, .int x3), (4, .int x4)] [] (M, L, R, K) r S'
  unfold b_X12_fillsFits_16 at h
  refine rn_iload 4 rfl zd_X12_fillsFits_0.2.1.2.1 ?_
  refine rn_bipush (v := 10) zd_X12_fillsFits_0.2.1.2.2 rfl ?_
  rcases zif_e h with ⟨hc4, h⟩ | ⟨hc4, h⟩
  · refine rn_icmp_ge_t (tgt := 54) hc4 zd_X12_fillsFits_0.2.2.1.1 rfl ?_
    cases h
    exact rn_sub (ls' := [(0, .ref a0), (1, .int x1), (2, .int x2), (3, .int x3)]) [0, 1, 2, 3] rfl hk
  · refine rn_icmp_ge_f (tgt := 54) hc4 zd_X12_fillsFits_0.2.2.1.1 rfl ?_
    refine rn_aload_n (q := 0) 0 rfl zd_X12_fillsFits_0.2.2.1.2 ?_
    refine rn_getR zf_X12_125 (Or.inr ⟨_, rfl⟩) k_a0 (zx_12_56 hW k_a0) zd_X12_fillsFits_0.2.2.2.1 ?_
    refine rn_iload 4 rfl zd_X12_fillsFits_0.2.2.2.2 ?_
    refine rn_iconst (v := -1) zd_X12_fillsFits_1.1.1.1.1 rfl ?_
    obtain ⟨hc5, h⟩ := zck_e h
    obtain ⟨M6, hM6, h⟩ := zlt_e h
    refine rn_iast hM6 (zw_12_56 hW k_a0) hc5 zd_X12_fillsFits_1.1.1.1.2 ?_
    refine rn_aload_n (q := 0) 0 rfl zd_X12_fillsFits_1.1.1.2.1 ?_
    refine rn_getR zf_X12_128 (Or.inr ⟨_, rfl⟩) k_a0 (zx_12_57 hW k_a0) zd_X12_fillsFits_1.1.1.2.2 ?_
    refine rn_iload 4 rfl zd_X12_fillsFits_1.1.2.1.1 ?_
    refine rn_bipush (v := 100) zd_X12_fillsFits_1.1.2.1.2 rfl ?_
    obtain ⟨hc7, h⟩ := zck_e h
    obtain ⟨M8, hM8, h⟩ := zlt_e h
    refine rn_iast hM8 (zw_12_57 hW k_a0) hc7 zd_X12_fillsFits_1.1.2.2.1 ?_
    refine rn_aload_n (q := 0) 0 rfl zd_X12_fillsFits_1.1.2.2.2 ?_
    refine rn_getR zf_X12_131 (Or.inr ⟨_, rfl⟩) k_a0 (zx_12_58 hW k_a0) zd_X12_fillsFits_1.2.1.1.1 ?_
    refine rn_iload 4 rfl zd_X12_fillsFits_1.2.1.1.2 ?_
    refine rn_iconst (v := 0) zd_X12_fillsFits_1.2.1.2.1 rfl ?_
    obtain ⟨hc9, h⟩ := zck_e h
    obtain ⟨M10, hM10, h⟩ := zlt_e h
    refine rn_iast hM10 (zw_12_58 hW k_a0) hc9 zd_X12_fillsFits_1.2.1.2.2 ?_
    refine rn_iinc (v := (x4 + 1)) (ls' := [(4, .int (x4 + 1)), (0, .ref a0), (1, .int x1), (2, .int x2), (3, .int x3)]) 4 rfl rfl (by decide) rfl zd_X12_fillsFits_1.2.2.1.1 ?_
    refine rn_goto (tgt := 16) zd_X12_fillsFits_1.2.2.1.2 rfl ?_
    cases h
    exact rn_sub (ls' := [(0, .ref a0), (1, .int x1), (2, .int x2), (3, .int x3), (4, .int (x4 + 1))]) [1, 2, 3, 4, 0] rfl hk
abbrev P_X12_fillsFits_57 (G : zG) (K : zK) (R : zR) (L : zL) (a0 : Nat) (x1 : Int32) (x2 : Int32) (x3 : Int32) (r : Option Value) (S' : zS) (v : Int32 × zM) : Prop := Rn G mt_X12_fillsFits 57 [(0, .ref a0), (1, .int x1), (2, .int x2), (3, .int x3), (4, .int v.1)] [] (v.2, L, R, K) r S'
abbrev Q_X12_fillsFits_57 (G : zG) (K : zK) (R : zR) (L : zL) (a0 : Nat) (x1 : Int32) (x2 : Int32) (x3 : Int32) (r : Option Value) (S' : zS) : (zM) → Prop := (fun e => Rn G mt_X12_fillsFits 88 [(0, .ref a0), (1, .int x1), (3, .int x3)] [] (e, L, R, K) r S')
def b_X12_fillsFits_57 (R : zR) (M : zM) (a0 : Nat) (x1 : Int32) (x2 : Int32) (x3 : Int32) (x4 : Int32) : Option ((Int32 × zM) ⊕ ((zM))) :=
  if x2 ≤ x4 then (
    some (.inr M)
  ) else (
    zck (zin x4 20) <|
    zck (zin x4 20) <|
    zck (zin (M (R a0 54) (ztn x4)) 10) <|
    zlt (zup M (R a0 56) (ztn (M (R a0 54) (ztn x4))) (M (R a0 55) (ztn x4))) fun M16 =>
    some (.inl ((x4 + 1), M16))
  )
set_option maxRecDepth 4000 in
theorem ok_b_X12_fillsFits_57 {G : zG} {K : zK} {R : zR} {M : zM} {L : zL} (hW : zWT R K) {a0 : Nat} {x1 : Int32} {x2 : Int32} {x3 : Int32} {x4 : Int32} (k_a0 : K[a0]? = some (12, 61)) {r : Option Value} {S' : zS} {x : (Int32 × zM) ⊕ ((zM))} (h : b_X12_fillsFits_57 R M a0 x1 x2 x3 x4 = some x) (hk : Sum.elim (P_X12_fillsFits_57 G K R L a0 x1 x2 x3 r S') (Q_X12_fillsFits_57 G K R L a0 x1 x2 x3 r S') x) : P_X12_fillsFits_57 G K R L a0 x1 x2 x3 r S' (x4, M) := by
  show Rn G mt_X12_fillsFits 57 [(0, .ref a0), (1, .int x1), (2, .int x2), (3, .int x3), (4, .int x4)] [] (M, L, R, K) r S'
  unfold b_X12_fillsFits_57 at h
  refine rn_iload 4 rfl zd_X12_fillsFits_2.1.1.1.1 ?_
  refine rn_iload_n (q := 2) 2 rfl zd_X12_fillsFits_2.1.1.1.2 ?_
  rcases zif_e h with ⟨hc12, h⟩ | ⟨hc12, h⟩
  · refine rn_icmp_ge_t (tgt := 88) hc12 zd_X12_fillsFits_2.1.1.2.1 rfl ?_
    cases h
    exact rn_sub (ls' := [(0, .ref a0), (1, .int x1), (3, .int x3)]) [0, 1, 3] rfl hk
  · refine rn_icmp_ge_f (tgt := 88) hc12 zd_X12_fillsFits_2.1.1.2.1 rfl ?_
    refine rn_aload_n (q := 0) 0 rfl zd_X12_fillsFits_2.1.1.2.2 ?_
    refine rn_getR zf_X12_125 (Or.inr ⟨_, rfl⟩) k_a0 (zx_12_56 hW k_a0) zd_X12_fillsFits_2.1.2.1.1 ?_
    refine rn_aload_n (q := 0) 0 rfl zd_X12_fillsFits_2.1.2.1.2 ?_
    refine rn_getR zf_X12_119 (Or.inr ⟨_, rfl⟩) k_a0 (zx_12_54 hW k_a0) zd_X12_fillsFits_2.1.2.2.1 ?_
    refine rn_iload 4 rfl zd_X12_fillsFits_2.1.2.2.2 ?_
    obtain ⟨hc13, h⟩ := zck_e h
    refine rn_iald (zw_12_54 hW k_a0) hc13 zd_X12_fillsFits_2.2.1.1.1 ?_
    refine rn_aload_n (q := 0) 0 rfl zd_X12_fillsFits_2.2.1.1.2 ?_
    refine rn_getR zf_X12_122 (Or.inr ⟨_, rfl⟩) k_a0 (zx_12_55 hW k_a0) zd_X12_fillsFits_2.2.1.2.1 ?_
    refine rn_iload 4 rfl zd_X12_fillsFits_2.2.1.2.2 ?_
    obtain ⟨hc14, h⟩ := zck_e h
    refine rn_iald (zw_12_55 hW k_a0) hc14 zd_X12_fillsFits_2.2.2.1.1 ?_
    obtain ⟨hc15, h⟩ := zck_e h
    obtain ⟨M16, hM16, h⟩ := zlt_e h
    refine rn_iast hM16 (zw_12_56 hW k_a0) hc15 zd_X12_fillsFits_2.2.2.1.2 ?_
    refine rn_iinc (v := (x4 + 1)) (ls' := [(4, .int (x4 + 1)), (0, .ref a0), (1, .int x1), (2, .int x2), (3, .int x3)]) 4 rfl rfl (by decide) rfl zd_X12_fillsFits_2.2.2.2.1 ?_
    refine rn_goto (tgt := 57) zd_X12_fillsFits_2.2.2.2.2 rfl ?_
    cases h
    exact rn_sub (ls' := [(0, .ref a0), (1, .int x1), (2, .int x2), (3, .int x3), (4, .int (x4 + 1))]) [1, 2, 3, 4, 0] rfl hk
abbrev P_X12_fillsFits_94 (G : zG) (K : zK) (R : zR) (L : zL) (a0 : Nat) (x1 : Int32) (x3 : Int32) (r : Option Value) (S' : zS) (v : Int32 × Int32 × zM) : Prop := Rn G mt_X12_fillsFits 94 [(0, .ref a0), (1, .int x1), (3, .int x3), (4, .int v.1), (5, .int v.2.1)] [] (v.2.2, L, R, K) r S'
abbrev Q_X12_fillsFits_94 (G : zG) (K : zK) (R : zR) (L : zL) (a0 : Nat) (x1 : Int32) (x3 : Int32) (r : Option Value) (S' : zS) : (Int32 × zM) → Prop := (fun e => Rn G mt_X12_fillsFits 294 [(4, .int e.1)] [] (e.2, L, R, K) r S')
abbrev P_X12_fillsFits_127 (G : zG) (K : zK) (R : zR) (M : zM) (L : zL) (a0 : Nat) (x1 : Int32) (x3 : Int32) (x4 : Int32) (x5 : Int32) (r : Option Value) (S' : zS) (v : Int32 × Int32) : Prop := Rn G mt_X12_fillsFits 127 [(0, .ref a0), (1, .int x1), (3, .int x3), (4, .int x4), (5, .int x5), (6, .int v.1), (7, .int v.2)] [] (M, L, R, K) r S'
abbrev Q_X12_fillsFits_127 (G : zG) (K : zK) (R : zR) (M : zM) (L : zL) (a0 : Nat) (x1 : Int32) (x3 : Int32) (x4 : Int32) (x5 : Int32) (r : Option Value) (S' : zS) : (Int32) → Prop := (fun e => Rn G mt_X12_fillsFits 187 [(0, .ref a0), (1, .int x1), (3, .int x3), (4, .int x4), (5, .int x5), (6, .int e)] [] (M, L, R, K) r S')
def j_X12_fillsFits_174 (R : zR) (M : zM) (a0 : Nat) (x1 : Int32) (x3 : Int32) (x4 : Int32) (x5 : Int32) (x7 : Int32) : Option ((Int32 × Int32) ⊕ ((Int32))) :=
  some (.inl ((1 : Int32), (x7 + 1)))
set_option maxRecDepth 4000 in
theorem ok_j_X12_fillsFits_174 {G : zG} {K : zK} {R : zR} {M : zM} {L : zL} (hW : zWT R K) {a0 : Nat} {x1 : Int32} {x3 : Int32} {x4 : Int32} {x5 : Int32} {x7 : Int32} (k_a0 : K[a0]? = some (12, 61)) {r : Option Value} {S' : zS} {x : (Int32 × Int32) ⊕ ((Int32))} (h : j_X12_fillsFits_174 R M a0 x1 x3 x4 x5 x7 = some x) (hk : Sum.elim (P_X12_fillsFits_127 G K R M L a0 x1 x3 x4 x5 r S') (Q_X12_fillsFits_127 G K R M L a0 x1 x3 x4 x5 r S') x) : Rn G mt_X12_fillsFits 174 [(0, .ref a0), (1, .int x1), (3, .int x3), (4, .int x4), (5, .int x5), (7, .int x7)] [] (M, L, R, K) r S' := by
  unfold j_X12_fillsFits_174 at h
  refine rn_iconst (v := 1) zd_X12_fillsFits_5.2.2.2.2 rfl ?_
  refine rn_goto (tgt := 179) zd_X12_fillsFits_6.1.1.1.1 rfl ?_
  refine rn_istore (ls' := [(6, .int (1 : Int32)), (0, .ref a0), (1, .int x1), (3, .int x3), (4, .int x4), (5, .int x5), (7, .int x7)]) (by decide) rfl zd_X12_fillsFits_6.1.1.2.1 ?_
  refine rn_iinc (v := (x7 + 1)) (ls' := [(7, .int (x7 + 1)), (6, .int (1 : Int32)), (0, .ref a0), (1, .int x1), (3, .int x3), (4, .int x4), (5, .int x5)]) 6 rfl rfl (by decide) rfl zd_X12_fillsFits_6.1.1.2.2 ?_
  refine rn_goto (tgt := 127) zd_X12_fillsFits_6.1.2.1.1 rfl ?_
  cases h
  exact rn_sub (ls' := [(0, .ref a0), (1, .int x1), (3, .int x3), (4, .int x4), (5, .int x5), (6, .int (1 : Int32)), (7, .int (x7 + 1))]) [2, 3, 4, 5, 6, 1, 0] rfl hk
def b_X12_fillsFits_127 (R : zR) (M : zM) (a0 : Nat) (x1 : Int32) (x3 : Int32) (x4 : Int32) (x5 : Int32) (x6 : Int32) (x7 : Int32) : Option ((Int32 × Int32) ⊕ ((Int32))) :=
  if (M (R a0 46) (ztn (40 : Int32))) ≤ x7 then (
    some (.inr x6)
  ) else (
    if x6 = 0 then (
      some (.inl ((0 : Int32), (x7 + 1)))
    ) else (
      zck (zin x7 10) <|
      if (M (R a0 56) (ztn x7)) < 0 then (
        j_X12_fillsFits_174 R M a0 x1 x3 x4 x5 x7
      ) else (
        zck (zin x7 10) <|
        zck (zin ((20 : Int32) + x7) 60) <|
        if (M (R a0 56) (ztn x7)) = (M (R a0 46) (ztn ((20 : Int32) + x7))) then (
          j_X12_fillsFits_174 R M a0 x1 x3 x4 x5 x7
        ) else (
          some (.inl ((0 : Int32), (x7 + 1)))
        )
      )
    )
  )
set_option maxRecDepth 4000 in
theorem ok_b_X12_fillsFits_127 {G : zG} {K : zK} {R : zR} {M : zM} {L : zL} (hW : zWT R K) {a0 : Nat} {x1 : Int32} {x3 : Int32} {x4 : Int32} {x5 : Int32} {x6 : Int32} {x7 : Int32} (k_a0 : K[a0]? = some (12, 61)) {r : Option Value} {S' : zS} {x : (Int32 × Int32) ⊕ ((Int32))} (h : b_X12_fillsFits_127 R M a0 x1 x3 x4 x5 x6 x7 = some x) (hk : Sum.elim (P_X12_fillsFits_127 G K R M L a0 x1 x3 x4 x5 r S') (Q_X12_fillsFits_127 G K R M L a0 x1 x3 x4 x5 r S') x) : P_X12_fillsFits_127 G K R M L a0 x1 x3 x4 x5 r S' (x6, x7) := by
  show Rn G mt_X12_fillsFits 127 [(0, .ref a0), (1, .int x1), (3, .int x3), (4, .int x4), (5, .int x5), (6, .int x6), (7, .int x7)] [] (M, L, R, K) r S'
  unfold b_X12_fillsFits_127 at h
  refine rn_iload 6 rfl zd_X12_fillsFits_4.1.2.2.2 ?_
  refine rn_aload_n (q := 0) 0 rfl zd_X12_fillsFits_4.2.1.1.1 ?_
  refine rn_getR zf_X12_104 (Or.inr ⟨_, rfl⟩) k_a0 (zx_12_46 hW k_a0) zd_X12_fillsFits_4.2.1.1.2 ?_
  refine rn_bipush (v := 40) zd_X12_fillsFits_4.2.1.2.1 rfl ?_
  refine rn_iald (zw_12_46 hW k_a0) (by decide) zd_X12_fillsFits_4.2.1.2.2 ?_
  rcases zif_e h with ⟨hc24, h⟩ | ⟨hc24, h⟩
  · refine rn_icmp_ge_t (tgt := 187) hc24 zd_X12_fillsFits_4.2.2.1.1 rfl ?_
    cases h
    exact rn_sub (ls' := [(0, .ref a0), (1, .int x1), (3, .int x3), (4, .int x4), (5, .int x5), (6, .int x6)]) [0, 1, 2, 3, 4, 5] rfl hk
  · refine rn_icmp_ge_f (tgt := 187) hc24 zd_X12_fillsFits_4.2.2.1.1 rfl ?_
    refine rn_iload 5 rfl zd_X12_fillsFits_4.2.2.1.2 ?_
    rcases zif_e h with ⟨hc25, h⟩ | ⟨hc25, h⟩
    · refine rn_if_eq_t (tgt := 178) hc25 zd_X12_fillsFits_4.2.2.2.1 rfl ?_
      refine rn_iconst (v := 0) zd_X12_fillsFits_6.1.1.1.2 rfl ?_
      refine rn_istore (ls' := [(6, .int (0 : Int32)), (0, .ref a0), (1, .int x1), (3, .int x3), (4, .int x4), (5, .int x5), (7, .int x7)]) (by decide) rfl zd_X12_fillsFits_6.1.1.2.1 ?_
      refine rn_iinc (v := (x7 + 1)) (ls' := [(7, .int (x7 + 1)), (6, .int (0 : Int32)), (0, .ref a0), (1, .int x1), (3, .int x3), (4, .int x4), (5, .int x5)]) 6 rfl rfl (by decide) rfl zd_X12_fillsFits_6.1.1.2.2 ?_
      refine rn_goto (tgt := 127) zd_X12_fillsFits_6.1.2.1.1 rfl ?_
      cases h
      exact rn_sub (ls' := [(0, .ref a0), (1, .int x1), (3, .int x3), (4, .int x4), (5, .int x5), (6, .int (0 : Int32)), (7, .int (x7 + 1))]) [2, 3, 4, 5, 6, 1, 0] rfl hk
    · refine rn_if_eq_f (tgt := 178) hc25 zd_X12_fillsFits_4.2.2.2.1 rfl ?_
      refine rn_aload_n (q := 0) 0 rfl zd_X12_fillsFits_4.2.2.2.2 ?_
      refine rn_getR zf_X12_125 (Or.inr ⟨_, rfl⟩) k_a0 (zx_12_56 hW k_a0) zd_X12_fillsFits_5.1.1.1.1 ?_
      refine rn_iload 6 rfl zd_X12_fillsFits_5.1.1.1.2 ?_
      obtain ⟨hc26, h⟩ := zck_e h
      refine rn_iald (zw_12_56 hW k_a0) hc26 zd_X12_fillsFits_5.1.1.2.1 ?_
      rcases zif_e h with ⟨hc27, h⟩ | ⟨hc27, h⟩
      · refine rn_if_lt_t (tgt := 174) hc27 zd_X12_fillsFits_5.1.1.2.2 rfl ?_
        exact rn_sub (ls' := [(0, .ref a0), (1, .int x1), (3, .int x3), (4, .int x4), (5, .int x5), (7, .int x7)]) [0, 1, 2, 3, 4, 6] rfl (ok_j_X12_fillsFits_174 hW k_a0 h hk)
      · refine rn_if_lt_f (tgt := 174) hc27 zd_X12_fillsFits_5.1.1.2.2 rfl ?_
        refine rn_aload_n (q := 0) 0 rfl zd_X12_fillsFits_5.1.2.1.1 ?_
        refine rn_getR zf_X12_125 (Or.inr ⟨_, rfl⟩) k_a0 (zx_12_56 hW k_a0) zd_X12_fillsFits_5.1.2.1.2 ?_
        refine rn_iload 6 rfl zd_X12_fillsFits_5.1.2.2.1 ?_
        obtain ⟨hc28, h⟩ := zck_e h
        refine rn_iald (zw_12_56 hW k_a0) hc28 zd_X12_fillsFits_5.1.2.2.2 ?_
        refine rn_aload_n (q := 0) 0 rfl zd_X12_fillsFits_5.2.1.1.1 ?_
        refine rn_getR zf_X12_104 (Or.inr ⟨_, rfl⟩) k_a0 (zx_12_46 hW k_a0) zd_X12_fillsFits_5.2.1.1.2 ?_
        refine rn_bipush (v := 20) zd_X12_fillsFits_5.2.1.2.1 rfl ?_
        refine rn_iload 6 rfl zd_X12_fillsFits_5.2.1.2.2 ?_
        refine rn_iadd zd_X12_fillsFits_5.2.2.1.1 ?_
        obtain ⟨hc29, h⟩ := zck_e h
        refine rn_iald (zw_12_46 hW k_a0) hc29 zd_X12_fillsFits_5.2.2.1.2 ?_
        rcases zif_e h with ⟨hc30, h⟩ | ⟨hc30, h⟩
        · refine rn_icmp_ne_f (tgt := 178) hc30 zd_X12_fillsFits_5.2.2.2.1 rfl ?_
          exact rn_sub (ls' := [(0, .ref a0), (1, .int x1), (3, .int x3), (4, .int x4), (5, .int x5), (7, .int x7)]) [0, 1, 2, 3, 4, 6] rfl (ok_j_X12_fillsFits_174 hW k_a0 h hk)
        · refine rn_icmp_ne_t (tgt := 178) hc30 zd_X12_fillsFits_5.2.2.2.1 rfl ?_
          refine rn_iconst (v := 0) zd_X12_fillsFits_6.1.1.1.2 rfl ?_
          refine rn_istore (ls' := [(6, .int (0 : Int32)), (0, .ref a0), (1, .int x1), (3, .int x3), (4, .int x4), (5, .int x5), (7, .int x7)]) (by decide) rfl zd_X12_fillsFits_6.1.1.2.1 ?_
          refine rn_iinc (v := (x7 + 1)) (ls' := [(7, .int (x7 + 1)), (6, .int (0 : Int32)), (0, .ref a0), (1, .int x1), (3, .int x3), (4, .int x4), (5, .int x5)]) 6 rfl rfl (by decide) rfl zd_X12_fillsFits_6.1.1.2.2 ?_
          refine rn_goto (tgt := 127) zd_X12_fillsFits_6.1.2.1.1 rfl ?_
          cases h
          exact rn_sub (ls' := [(0, .ref a0), (1, .int x1), (3, .int x3), (4, .int x4), (5, .int x5), (6, .int (0 : Int32)), (7, .int (x7 + 1))]) [2, 3, 4, 5, 6, 1, 0] rfl hk
abbrev P_X12_fillsFits_208 (G : zG) (K : zK) (R : zR) (L : zL) (a0 : Nat) (x1 : Int32) (x3 : Int32) (x4 : Int32) (x5 : Int32) (r : Option Value) (S' : zS) (v : Int32 × zM) : Prop := Rn G mt_X12_fillsFits 208 [(0, .ref a0), (1, .int x1), (3, .int x3), (4, .int x4), (5, .int x5), (7, .int v.1)] [] (v.2, L, R, K) r S'
abbrev Q_X12_fillsFits_208 (G : zG) (K : zK) (R : zR) (L : zL) (a0 : Nat) (x1 : Int32) (x3 : Int32) (x4 : Int32) (x5 : Int32) (r : Option Value) (S' : zS) : (zM) → Prop := (fun e => Rn G mt_X12_fillsFits 288 [(0, .ref a0), (1, .int x1), (3, .int x3), (4, .int x4), (5, .int x5)] [] (e, L, R, K) r S')
def j_X12_fillsFits_251 (R : zR) (M : zM) (a0 : Nat) (x1 : Int32) (x3 : Int32) (x4 : Int32) (x5 : Int32) (x7 : Int32) : Option ((Int32 × zM) ⊕ ((zM))) :=
  zck (zin x7 60) <|
  zck (zin x7 10) <|
  if (M (R a0 46) (ztn x7)) ≤ (M (R a0 58) (ztn x7)) then (
    some (.inl ((x7 + 1), M))
  ) else (
    zck (zin x7 60) <|
    zck (zin x7 10) <|
    zlt (zup M (R a0 58) (ztn x7) (M (R a0 46) (ztn x7))) fun M44 =>
    some (.inl ((x7 + 1), M44))
  )
set_option maxRecDepth 4000 in
theorem ok_j_X12_fillsFits_251 {G : zG} {K : zK} {R : zR} {M : zM} {L : zL} (hW : zWT R K) {a0 : Nat} {x1 : Int32} {x3 : Int32} {x4 : Int32} {x5 : Int32} {x7 : Int32} (k_a0 : K[a0]? = some (12, 61)) {r : Option Value} {S' : zS} {x : (Int32 × zM) ⊕ ((zM))} (h : j_X12_fillsFits_251 R M a0 x1 x3 x4 x5 x7 = some x) (hk : Sum.elim (P_X12_fillsFits_208 G K R L a0 x1 x3 x4 x5 r S') (Q_X12_fillsFits_208 G K R L a0 x1 x3 x4 x5 r S') x) : Rn G mt_X12_fillsFits 251 [(0, .ref a0), (1, .int x1), (3, .int x3), (4, .int x4), (5, .int x5), (7, .int x7)] [] (M, L, R, K) r S' := by
  unfold j_X12_fillsFits_251 at h
  refine rn_aload_n (q := 0) 0 rfl zd_X12_fillsFits_8.1.2.2.1 ?_
  refine rn_getR zf_X12_104 (Or.inr ⟨_, rfl⟩) k_a0 (zx_12_46 hW k_a0) zd_X12_fillsFits_8.1.2.2.2 ?_
  refine rn_iload 5 rfl zd_X12_fillsFits_8.2.1.1.1 ?_
  obtain ⟨hc39, h⟩ := zck_e h
  refine rn_iald (zw_12_46 hW k_a0) hc39 zd_X12_fillsFits_8.2.1.1.2 ?_
  refine rn_aload_n (q := 0) 0 rfl zd_X12_fillsFits_8.2.1.2.1 ?_
  refine rn_getR zf_X12_131 (Or.inr ⟨_, rfl⟩) k_a0 (zx_12_58 hW k_a0) zd_X12_fillsFits_8.2.1.2.2 ?_
  refine rn_iload 5 rfl zd_X12_fillsFits_8.2.2.1.1 ?_
  obtain ⟨hc40, h⟩ := zck_e h
  refine rn_iald (zw_12_58 hW k_a0) hc40 zd_X12_fillsFits_8.2.2.1.2 ?_
  rcases zif_e h with ⟨hc41, h⟩ | ⟨hc41, h⟩
  · refine rn_icmp_le_t (tgt := 282) hc41 zd_X12_fillsFits_8.2.2.2.1 rfl ?_
    refine rn_iinc (v := (x7 + 1)) (ls' := [(7, .int (x7 + 1)), (0, .ref a0), (1, .int x1), (3, .int x3), (4, .int x4), (5, .int x5)]) 5 rfl rfl (by decide) rfl zd_X12_fillsFits_9.2.1.2.1 ?_
    refine rn_goto (tgt := 208) zd_X12_fillsFits_9.2.1.2.2 rfl ?_
    cases h
    exact rn_sub (ls' := [(0, .ref a0), (1, .int x1), (3, .int x3), (4, .int x4), (5, .int x5), (7, .int (x7 + 1))]) [1, 2, 3, 4, 5, 0] rfl hk
  · refine rn_icmp_le_f (tgt := 282) hc41 zd_X12_fillsFits_8.2.2.2.1 rfl ?_
    refine rn_aload_n (q := 0) 0 rfl zd_X12_fillsFits_8.2.2.2.2 ?_
    refine rn_getR zf_X12_131 (Or.inr ⟨_, rfl⟩) k_a0 (zx_12_58 hW k_a0) zd_X12_fillsFits_9.1.1.1 ?_
    refine rn_iload 5 rfl zd_X12_fillsFits_9.1.1.2.1 ?_
    refine rn_aload_n (q := 0) 0 rfl zd_X12_fillsFits_9.1.1.2.2 ?_
    refine rn_getR zf_X12_104 (Or.inr ⟨_, rfl⟩) k_a0 (zx_12_46 hW k_a0) zd_X12_fillsFits_9.1.2.1 ?_
    refine rn_iload 5 rfl zd_X12_fillsFits_9.1.2.2.1 ?_
    obtain ⟨hc42, h⟩ := zck_e h
    refine rn_iald (zw_12_46 hW k_a0) hc42 zd_X12_fillsFits_9.1.2.2.2 ?_
    obtain ⟨hc43, h⟩ := zck_e h
    obtain ⟨M44, hM44, h⟩ := zlt_e h
    refine rn_iast hM44 (zw_12_58 hW k_a0) hc43 zd_X12_fillsFits_9.2.1.1 ?_
    refine rn_iinc (v := (x7 + 1)) (ls' := [(7, .int (x7 + 1)), (0, .ref a0), (1, .int x1), (3, .int x3), (4, .int x4), (5, .int x5)]) 5 rfl rfl (by decide) rfl zd_X12_fillsFits_9.2.1.2.1 ?_
    refine rn_goto (tgt := 208) zd_X12_fillsFits_9.2.1.2.2 rfl ?_
    cases h
    exact rn_sub (ls' := [(0, .ref a0), (1, .int x1), (3, .int x3), (4, .int x4), (5, .int x5), (7, .int (x7 + 1))]) [1, 2, 3, 4, 5, 0] rfl hk
def b_X12_fillsFits_208 (R : zR) (M : zM) (a0 : Nat) (x1 : Int32) (x3 : Int32) (x4 : Int32) (x5 : Int32) (x7 : Int32) : Option ((Int32 × zM) ⊕ ((zM))) :=
  if (M (R a0 46) (ztn (40 : Int32))) ≤ x7 then (
    some (.inr M)
  ) else (
    zck (zin x7 60) <|
    zck (zin x7 10) <|
    if (M (R a0 57) (ztn x7)) ≤ (M (R a0 46) (ztn x7)) then (
      j_X12_fillsFits_251 R M a0 x1 x3 x4 x5 x7
    ) else (
      zck (zin x7 60) <|
      zck (zin x7 10) <|
      zlt (zup M (R a0 57) (ztn x7) (M (R a0 46) (ztn x7))) fun M47 =>
      j_X12_fillsFits_251 R M47 a0 x1 x3 x4 x5 x7
    )
  )
set_option maxRecDepth 4000 in
theorem ok_b_X12_fillsFits_208 {G : zG} {K : zK} {R : zR} {M : zM} {L : zL} (hW : zWT R K) {a0 : Nat} {x1 : Int32} {x3 : Int32} {x4 : Int32} {x5 : Int32} {x7 : Int32} (k_a0 : K[a0]? = some (12, 61)) {r : Option Value} {S' : zS} {x : (Int32 × zM) ⊕ ((zM))} (h : b_X12_fillsFits_208 R M a0 x1 x3 x4 x5 x7 = some x) (hk : Sum.elim (P_X12_fillsFits_208 G K R L a0 x1 x3 x4 x5 r S') (Q_X12_fillsFits_208 G K R L a0 x1 x3 x4 x5 r S') x) : P_X12_fillsFits_208 G K R L a0 x1 x3 x4 x5 r S' (x7, M) := by
  show Rn G mt_X12_fillsFits 208 [(0, .ref a0), (1, .int x1), (3, .int x3), (4, .int x4), (5, .int x5), (7, .int x7)] [] (M, L, R, K) r S'
  unfold b_X12_fillsFits_208 at h
  refine rn_iload 5 rfl zd_X12_fillsFits_6.2.2.2.2 ?_
  refine rn_aload_n (q := 0) 0 rfl zd_X12_fillsFits_7.1.1.1.1 ?_
  refine rn_getR zf_X12_104 (Or.inr ⟨_, rfl⟩) k_a0 (zx_12_46 hW k_a0) zd_X12_fillsFits_7.1.1.1.2 ?_
  refine rn_bipush (v := 40) zd_X12_fillsFits_7.1.1.2.1 rfl ?_
  refine rn_iald (zw_12_46 hW k_a0) (by decide) zd_X12_fillsFits_7.1.1.2.2 ?_
  rcases zif_e h with ⟨hc35, h⟩ | ⟨hc35, h⟩
  · refine rn_icmp_ge_t (tgt := 288) hc35 zd_X12_fillsFits_7.1.2.1.1 rfl ?_
    cases h
    exact rn_sub (ls' := [(0, .ref a0), (1, .int x1), (3, .int x3), (4, .int x4), (5, .int x5)]) [0, 1, 2, 3, 4] rfl hk
  · refine rn_icmp_ge_f (tgt := 288) hc35 zd_X12_fillsFits_7.1.2.1.1 rfl ?_
    refine rn_aload_n (q := 0) 0 rfl zd_X12_fillsFits_7.1.2.1.2 ?_
    refine rn_getR zf_X12_104 (Or.inr ⟨_, rfl⟩) k_a0 (zx_12_46 hW k_a0) zd_X12_fillsFits_7.1.2.2.1 ?_
    refine rn_iload 5 rfl zd_X12_fillsFits_7.1.2.2.2 ?_
    obtain ⟨hc36, h⟩ := zck_e h
    refine rn_iald (zw_12_46 hW k_a0) hc36 zd_X12_fillsFits_7.2.1.1.1 ?_
    refine rn_aload_n (q := 0) 0 rfl zd_X12_fillsFits_7.2.1.1.2 ?_
    refine rn_getR zf_X12_128 (Or.inr ⟨_, rfl⟩) k_a0 (zx_12_57 hW k_a0) zd_X12_fillsFits_7.2.1.2.1 ?_
    refine rn_iload 5 rfl zd_X12_fillsFits_7.2.1.2.2 ?_
    obtain ⟨hc37, h⟩ := zck_e h
    refine rn_iald (zw_12_57 hW k_a0) hc37 zd_X12_fillsFits_7.2.2.1.1 ?_
    rcases zif_e h with ⟨hc38, h⟩ | ⟨hc38, h⟩
    · refine rn_icmp_ge_t (tgt := 251) hc38 zd_X12_fillsFits_7.2.2.1.2 rfl ?_
      exact rn_sub (ls' := [(0, .ref a0), (1, .int x1), (3, .int x3), (4, .int x4), (5, .int x5), (7, .int x7)]) [0, 1, 2, 3, 4, 5] rfl (ok_j_X12_fillsFits_251 hW k_a0 h hk)
    · refine rn_icmp_ge_f (tgt := 251) hc38 zd_X12_fillsFits_7.2.2.1.2 rfl ?_
      refine rn_aload_n (q := 0) 0 rfl zd_X12_fillsFits_7.2.2.2.1 ?_
      refine rn_getR zf_X12_128 (Or.inr ⟨_, rfl⟩) k_a0 (zx_12_57 hW k_a0) zd_X12_fillsFits_7.2.2.2.2 ?_
      refine rn_iload 5 rfl zd_X12_fillsFits_8.1.1.1.1 ?_
      refine rn_aload_n (q := 0) 0 rfl zd_X12_fillsFits_8.1.1.1.2 ?_
      refine rn_getR zf_X12_104 (Or.inr ⟨_, rfl⟩) k_a0 (zx_12_46 hW k_a0) zd_X12_fillsFits_8.1.1.2.1 ?_
      refine rn_iload 5 rfl zd_X12_fillsFits_8.1.1.2.2 ?_
      obtain ⟨hc45, h⟩ := zck_e h
      refine rn_iald (zw_12_46 hW k_a0) hc45 zd_X12_fillsFits_8.1.2.1.1 ?_
      obtain ⟨hc46, h⟩ := zck_e h
      obtain ⟨M47, hM47, h⟩ := zlt_e h
      refine rn_iast hM47 (zw_12_57 hW k_a0) hc46 zd_X12_fillsFits_8.1.2.1.2 ?_
      exact rn_sub (ls' := [(0, .ref a0), (1, .int x1), (3, .int x3), (4, .int x4), (5, .int x5), (7, .int x7)]) [0, 1, 2, 3, 4, 5] rfl (ok_j_X12_fillsFits_251 hW k_a0 h hk)
def b_X12_fillsFits_94 (R : zR) (M : zM) (a0 : Nat) (x1 : Int32) (x3 : Int32) (x4 : Int32) (x5 : Int32) : Option ((Int32 × Int32 × zM) ⊕ ((Int32 × zM))) :=
  if x3 ≤ x5 then (
    some (.inr (x4, M))
  ) else (
    zbd (f_X12_takesRow R M a0 x5 x1) fun M19 =>
    zck (zin (M19 a0 18) 2) <|
    zbd (f_X12_payAll R M19 a0 (M19 (R a0 25) (ztn (M19 a0 18))) (0 : Int32)) fun M22 =>
    zbd (zloop zN (fun v => b_X12_fillsFits_127 R M22 a0 x1 x3 x4 x5 v.1 v.2) ((1 : Int32), (0 : Int32))) fun e31 =>
    if e31 = 0 then (
      some (.inl (x4, (x5 + 1), M22))
    ) else (
      zbd (f_X12_takesRow R M22 a0 x5 x1) fun M33 =>
      zbd (zloop zN (fun v => b_X12_fillsFits_208 R v.2 a0 x1 x3 (x4 + 1) x5 v.1) ((0 : Int32), M33)) fun e48 =>
      some (.inl ((x4 + 1), (x5 + 1), e48))
    )
  )
set_option maxRecDepth 4000 in
theorem ok_b_X12_fillsFits_94 {G : zG} {K : zK} {R : zR} {M : zM} {L : zL} (hW : zWT R K) {a0 : Nat} {x1 : Int32} {x3 : Int32} {x4 : Int32} {x5 : Int32} (k_a0 : K[a0]? = some (12, 61)) {r : Option Value} {S' : zS} {x : (Int32 × Int32 × zM) ⊕ ((Int32 × zM))} (h : b_X12_fillsFits_94 R M a0 x1 x3 x4 x5 = some x) (hk : Sum.elim (P_X12_fillsFits_94 G K R L a0 x1 x3 r S') (Q_X12_fillsFits_94 G K R L a0 x1 x3 r S') x) : P_X12_fillsFits_94 G K R L a0 x1 x3 r S' (x4, x5, M) := by
  show Rn G mt_X12_fillsFits 94 [(0, .ref a0), (1, .int x1), (3, .int x3), (4, .int x4), (5, .int x5)] [] (M, L, R, K) r S'
  unfold b_X12_fillsFits_94 at h
  refine rn_iload 4 rfl zd_X12_fillsFits_3.1.2.1.1 ?_
  refine rn_iload_n (q := 3) 2 rfl zd_X12_fillsFits_3.1.2.1.2 ?_
  rcases zif_e h with ⟨hc18, h⟩ | ⟨hc18, h⟩
  · refine rn_icmp_ge_t (tgt := 294) hc18 zd_X12_fillsFits_3.1.2.2.1 rfl ?_
    cases h
    exact rn_sub (ls' := [(4, .int x4)]) [3] rfl hk
  · refine rn_icmp_ge_f (tgt := 294) hc18 zd_X12_fillsFits_3.1.2.2.1 rfl ?_
    refine rn_aload_n (q := 0) 0 rfl zd_X12_fillsFits_3.1.2.2.2 ?_
    refine rn_iload 4 rfl zd_X12_fillsFits_3.2.1.1.1 ?_
    refine rn_iload_n (q := 1) 1 rfl zd_X12_fillsFits_3.2.1.1.2 ?_
    obtain ⟨M19, h20, h⟩ := zbd_e h
    refine rn_callVv (As := [.int x5, .int x1]) (rest := []) zl_X12_374 zm_X12_takesRow ⟨by decide, by decide⟩ (ci := 12) rfl rfl (by decide) k_a0 rfl rfl (Nat.le_of_ble_eq_true rfl) zd_X12_fillsFits_3.2.1.2.1 (ok_X12_takesRow hW k_a0 h20) ?_
    refine rn_aload_n (q := 0) 0 rfl zd_X12_fillsFits_3.2.1.2.2 ?_
    refine rn_aload_n (q := 0) 0 rfl zd_X12_fillsFits_3.2.2.1.1 ?_
    refine rn_getR zf_X12_53 (Or.inr ⟨_, rfl⟩) k_a0 (zx_12_25 hW k_a0) zd_X12_fillsFits_3.2.2.1.2 ?_
    refine rn_aload_n (q := 0) 0 rfl zd_X12_fillsFits_3.2.2.2.1 ?_
    refine rn_getI zf_X12_212 (Or.inl rfl) k_a0 zd_X12_fillsFits_3.2.2.2.2 ?_
    obtain ⟨hc21, h⟩ := zck_e h
    refine rn_zald (zw_12_25 hW k_a0) hc21 zd_X12_fillsFits_4.1.1.1.1 ?_
    refine rn_iconst (v := 0) zd_X12_fillsFits_4.1.1.1.2 rfl ?_
    obtain ⟨M22, h23, h⟩ := zbd_e h
    refine rn_callVv (As := [.int (M19 (R a0 25) (ztn (M19 a0 18))), .int (0 : Int32)]) (rest := []) zl_X12_315 zm_X12_payAll ⟨by decide, by decide⟩ (ci := 12) rfl rfl (by decide) k_a0 rfl rfl (Nat.le_of_ble_eq_true rfl) zd_X12_fillsFits_4.1.1.2.1 (ok_X12_payAll hW k_a0 h23) ?_
    refine rn_iconst (v := 1) zd_X12_fillsFits_4.1.1.2.2 rfl ?_
    refine rn_istore (ls' := [(6, .int (1 : Int32)), (0, .ref a0), (1, .int x1), (3, .int x3), (4, .int x4), (5, .int x5)]) (by decide) rfl zd_X12_fillsFits_4.1.2.1.1 ?_
    refine rn_iconst (v := 0) zd_X12_fillsFits_4.1.2.1.2 rfl ?_
    refine rn_istore (ls' := [(7, .int (0 : Int32)), (6, .int (1 : Int32)), (0, .ref a0), (1, .int x1), (3, .int x3), (4, .int x4), (5, .int x5)]) (by decide) rfl zd_X12_fillsFits_4.1.2.2.1 ?_
    obtain ⟨e31, he31, h⟩ := zbd_e h
    refine rn_sub (ls' := [(0, .ref a0), (1, .int x1), (3, .int x3), (4, .int x4), (5, .int x5), (6, .int (1 : Int32)), (7, .int (0 : Int32))]) [2, 3, 4, 5, 6, 1, 0] rfl (zloop_ok (P := P_X12_fillsFits_127 G K R M22 L a0 x1 x3 x4 x5 r S') (Q := Q_X12_fillsFits_127 G K R M22 L a0 x1 x3 x4 x5 r S') (fun v x hx hq => ok_b_X12_fillsFits_127 hW k_a0 hx hq) _ _ _ he31 ?_)
    show Rn G mt_X12_fillsFits 187 [(0, .ref a0), (1, .int x1), (3, .int x3), (4, .int x4), (5, .int x5), (6, .int e31)] [] (M22, L, R, K) r S'
    refine rn_iload 5 rfl zd_X12_fillsFits_6.1.2.1.2 ?_
    rcases zif_e h with ⟨hc32, h⟩ | ⟨hc32, h⟩
    · refine rn_if_ne_f (tgt := 195) hc32 zd_X12_fillsFits_6.1.2.2.1 rfl ?_
      refine rn_goto (tgt := 288) zd_X12_fillsFits_6.1.2.2.2 rfl ?_
      refine rn_iinc (v := (x5 + 1)) (ls' := [(5, .int (x5 + 1)), (0, .ref a0), (1, .int x1), (3, .int x3), (4, .int x4), (6, .int e31)]) 4 rfl rfl (by decide) rfl zd_X12_fillsFits_9.2.2.1.1 ?_
      refine rn_goto (tgt := 94) zd_X12_fillsFits_9.2.2.1.2 rfl ?_
      cases h
      exact rn_sub (ls' := [(0, .ref a0), (1, .int x1), (3, .int x3), (4, .int x4), (5, .int (x5 + 1))]) [1, 2, 3, 4, 0] rfl hk
    · refine rn_if_ne_t (tgt := 195) hc32 zd_X12_fillsFits_6.1.2.2.1 rfl ?_
      refine rn_iinc (v := (x4 + 1)) (ls' := [(4, .int (x4 + 1)), (0, .ref a0), (1, .int x1), (3, .int x3), (5, .int x5), (6, .int e31)]) 3 rfl rfl (by decide) rfl zd_X12_fillsFits_6.2.1.1.1 ?_
      refine rn_aload_n (q := 0) 1 rfl zd_X12_fillsFits_6.2.1.1.2 ?_
      refine rn_iload 4 rfl zd_X12_fillsFits_6.2.1.2.1 ?_
      refine rn_iload_n (q := 1) 2 rfl zd_X12_fillsFits_6.2.1.2.2 ?_
      obtain ⟨M33, h34, h⟩ := zbd_e h
      refine rn_callVv (As := [.int x5, .int x1]) (rest := []) zl_X12_374 zm_X12_takesRow ⟨by decide, by decide⟩ (ci := 12) rfl rfl (by decide) k_a0 rfl rfl (Nat.le_of_ble_eq_true rfl) zd_X12_fillsFits_6.2.2.1.1 (ok_X12_takesRow hW k_a0 h34) ?_
      refine rn_iconst (v := 0) zd_X12_fillsFits_6.2.2.1.2 rfl ?_
      refine rn_istore (ls' := [(7, .int (0 : Int32)), (4, .int (x4 + 1)), (0, .ref a0), (1, .int x1), (3, .int x3), (5, .int x5), (6, .int e31)]) (by decide) rfl zd_X12_fillsFits_6.2.2.2.1 ?_
      obtain ⟨e48, he48, h⟩ := zbd_e h
      refine rn_sub (ls' := [(0, .ref a0), (1, .int x1), (3, .int x3), (4, .int (x4 + 1)), (5, .int x5), (7, .int (0 : Int32))]) [2, 3, 4, 1, 5, 0] rfl (zloop_ok (P := P_X12_fillsFits_208 G K R L a0 x1 x3 (x4 + 1) x5 r S') (Q := Q_X12_fillsFits_208 G K R L a0 x1 x3 (x4 + 1) x5 r S') (fun v x hx hq => ok_b_X12_fillsFits_208 hW k_a0 hx hq) _ _ _ he48 ?_)
      show Rn G mt_X12_fillsFits 288 [(0, .ref a0), (1, .int x1), (3, .int x3), (4, .int (x4 + 1)), (5, .int x5)] [] (e48, L, R, K) r S'
      refine rn_iinc (v := (x5 + 1)) (ls' := [(5, .int (x5 + 1)), (0, .ref a0), (1, .int x1), (3, .int x3), (4, .int (x4 + 1))]) 4 rfl rfl (by decide) rfl zd_X12_fillsFits_9.2.2.1.1 ?_
      refine rn_goto (tgt := 94) zd_X12_fillsFits_9.2.2.1.2 rfl ?_
      cases h
      exact rn_sub (ls' := [(0, .ref a0), (1, .int x1), (3, .int x3), (4, .int (x4 + 1)), (5, .int (x5 + 1))]) [1, 2, 3, 4, 0] rfl hk
def f_X12_fillsFits (R : zR) (M : zM) (a0 : Nat) (x1 : Int32) (x2 : Int32) : Option (Int32 × zM) :=
  zbd (f_X12_rowsOf R M a0 x1) fun r1 =>
  if 0 ≤ r1 then (
    zbd (zloop zN (fun v => b_X12_fillsFits_16 R v.2 a0 x1 x2 r1 v.1) ((0 : Int32), M)) fun e11 =>
    zbd (zloop zN (fun v => b_X12_fillsFits_57 R v.2 a0 x1 x2 r1 v.1) ((0 : Int32), e11)) fun e17 =>
    zbd (zloop zN (fun v => b_X12_fillsFits_94 R v.2.2 a0 x1 r1 v.1 v.2.1) ((0 : Int32), (0 : Int32), e17)) fun e49 =>
    some (e49.1, e49.2)
  ) else (
    some ((-2 : Int32), M)
  )
set_option maxRecDepth 4000 in
theorem ok_X12_fillsFits {G : zG} {K : zK} {R : zR} {M : zM} {L : zL} (hW : zWT R K) {a0 : Nat} {x1 : Int32} {x2 : Int32} (k_a0 : K[a0]? = some (12, 61)) {r' : Int32} {M' : zM} (h : f_X12_fillsFits R M a0 x1 x2 = some (r', M')) : Rm G mt_X12_fillsFits [.ref a0, .int x1, .int x2] (M, L, R, K) (some (.int r')) (M', L, R, K) := by
  refine rm_rn rfl rfl (Nat.le_of_ble_eq_true rfl) ?_
  show Rn G mt_X12_fillsFits 0 [(0, .ref a0), (1, .int x1), (2, .int x2)] [] (M, L, R, K) (some (.int r')) (M', L, R, K)
  unfold f_X12_fillsFits at h
  refine rn_aload_n (q := 0) 0 rfl zd_X12_fillsFits_0.1.1.1.1 ?_
  refine rn_iload_n (q := 1) 1 rfl zd_X12_fillsFits_0.1.1.1.2 ?_
  obtain ⟨r1, h2, h⟩ := zbd_e h
  refine rn_callVi (As := [.int x1]) (rest := []) zl_X12_371 zm_X12_rowsOf ⟨by decide, by decide⟩ (ci := 12) rfl rfl (by decide) k_a0 rfl rfl (Nat.le_of_ble_eq_true rfl) zd_X12_fillsFits_0.1.1.2.1 (ok_X12_rowsOf hW k_a0 h2) ?_
  refine rn_istore_n (q := 3) (ls' := [(3, .int r1), (0, .ref a0), (1, .int x1), (2, .int x2)]) (by decide) rfl zd_X12_fillsFits_0.1.1.2.2 ?_
  refine rn_iload_n (q := 3) 0 rfl zd_X12_fillsFits_0.1.2.1.1 ?_
  rcases zif_e h with ⟨hc3, h⟩ | ⟨hc3, h⟩
  · refine rn_if_ge_t (tgt := 13) hc3 zd_X12_fillsFits_0.1.2.1.2 rfl ?_
    refine rn_iconst (v := 0) zd_X12_fillsFits_0.2.1.1.1 rfl ?_
    refine rn_istore (ls' := [(4, .int (0 : Int32)), (3, .int r1), (0, .ref a0), (1, .int x1), (2, .int x2)]) (by decide) rfl zd_X12_fillsFits_0.2.1.1.2 ?_
    obtain ⟨e11, he11, h⟩ := zbd_e h
    refine rn_sub (ls' := [(0, .ref a0), (1, .int x1), (2, .int x2), (3, .int r1), (4, .int (0 : Int32))]) [2, 3, 4, 1, 0] rfl (zloop_ok (P := P_X12_fillsFits_16 G K R L a0 x1 x2 r1 (some (.int r')) (M', L, R, K)) (Q := Q_X12_fillsFits_16 G K R L a0 x1 x2 r1 (some (.int r')) (M', L, R, K)) (fun v x hx hq => ok_b_X12_fillsFits_16 hW k_a0 hx hq) _ _ _ he11 ?_)
    show Rn G mt_X12_fillsFits 54 [(0, .ref a0), (1, .int x1), (2, .int x2), (3, .int r1)] [] (e11, L, R, K) (some (.int r')) (M', L, R, K)
    refine rn_iconst (v := 0) zd_X12_fillsFits_1.2.2.2.1 rfl ?_
    refine rn_istore (ls' := [(4, .int (0 : Int32)), (0, .ref a0), (1, .int x1), (2, .int x2), (3, .int r1)]) (by decide) rfl zd_X12_fillsFits_1.2.2.2.2 ?_
    obtain ⟨e17, he17, h⟩ := zbd_e h
    refine rn_sub (ls' := [(0, .ref a0), (1, .int x1), (2, .int x2), (3, .int r1), (4, .int (0 : Int32))]) [1, 2, 3, 4, 0] rfl (zloop_ok (P := P_X12_fillsFits_57 G K R L a0 x1 x2 r1 (some (.int r')) (M', L, R, K)) (Q := Q_X12_fillsFits_57 G K R L a0 x1 x2 r1 (some (.int r')) (M', L, R, K)) (fun v x hx hq => ok_b_X12_fillsFits_57 hW k_a0 hx hq) _ _ _ he17 ?_)
    show Rn G mt_X12_fillsFits 88 [(0, .ref a0), (1, .int x1), (3, .int r1)] [] (e17, L, R, K) (some (.int r')) (M', L, R, K)
    refine rn_iconst (v := 0) zd_X12_fillsFits_3.1.1.1.1 rfl ?_
    refine rn_istore (ls' := [(4, .int (0 : Int32)), (0, .ref a0), (1, .int x1), (3, .int r1)]) (by decide) rfl zd_X12_fillsFits_3.1.1.1.2 ?_
    refine rn_iconst (v := 0) zd_X12_fillsFits_3.1.1.2.1 rfl ?_
    refine rn_istore (ls' := [(5, .int (0 : Int32)), (4, .int (0 : Int32)), (0, .ref a0), (1, .int x1), (3, .int r1)]) (by decide) rfl zd_X12_fillsFits_3.1.1.2.2 ?_
    obtain ⟨e49, he49, h⟩ := zbd_e h
    refine rn_sub (ls' := [(0, .ref a0), (1, .int x1), (3, .int r1), (4, .int (0 : Int32)), (5, .int (0 : Int32))]) [2, 3, 4, 1, 0] rfl (zloop_ok (P := P_X12_fillsFits_94 G K R L a0 x1 r1 (some (.int r')) (M', L, R, K)) (Q := Q_X12_fillsFits_94 G K R L a0 x1 r1 (some (.int r')) (M', L, R, K)) (fun v x hx hq => ok_b_X12_fillsFits_94 hW k_a0 hx hq) _ _ _ he49 ?_)
    show Rn G mt_X12_fillsFits 294 [(4, .int e49.1)] [] (e49.2, L, R, K) (some (.int r')) (M', L, R, K)
    refine rn_iload 0 rfl zd_X12_fillsFits_9.2.2.2.1 ?_
    cases h
    exact rn_iret zd_X12_fillsFits_9.2.2.2.2 rfl
  · refine rn_if_ge_f (tgt := 13) hc3 zd_X12_fillsFits_0.1.2.1.2 rfl ?_
    refine rn_bipush (v := -2) zd_X12_fillsFits_0.1.2.2.1 rfl ?_
    cases h
    exact rn_iret zd_X12_fillsFits_0.1.2.2.2 rfl
def f_X12_fits (R : zR) (M : zM) (a0 : Nat) (x1 : Int32) (x2 : Int32) : Option (Int32 × zM) :=
  zbd (f_X12_in x1 (1 : Int32) (20 : Int32)) fun r1 =>
  if r1 = 0 then (
    some ((-1 : Int32), M)
  ) else (
    zbd (f_X12_in x2 (0 : Int32) (M a0 53)) fun r4 =>
    if r4 = 0 then (
      some ((-1 : Int32), M)
    ) else (
      zbd2 (f_X12_fillsFits R M a0 x1 x2) fun r7 M8 =>
      some (r7, M8)
    )
  )
set_option maxRecDepth 4000 in
theorem ok_X12_fits {G : zG} {K : zK} {R : zR} {M : zM} {L : zL} (hW : zWT R K) {a0 : Nat} {x1 : Int32} {x2 : Int32} (k_a0 : K[a0]? = some (12, 61)) {r' : Int32} {M' : zM} (h : f_X12_fits R M a0 x1 x2 = some (r', M')) : Rm G mt_X12_fits [.ref a0, .int x1, .int x2] (M, L, R, K) (some (.int r')) (M', L, R, K) := by
  refine rm_rn rfl rfl (Nat.le_of_ble_eq_true rfl) ?_
  show Rn G mt_X12_fits 0 [(0, .ref a0), (1, .int x1), (2, .int x2)] [] (M, L, R, K) (some (.int r')) (M', L, R, K)
  unfold f_X12_fits at h
  refine rn_iload_n (q := 1) 1 rfl zd_X12_fits_0.1.1.1.1 ?_
  refine rn_iconst (v := 1) zd_X12_fits_0.1.1.1.2 rfl ?_
  refine rn_bipush (v := 20) zd_X12_fits_0.1.1.2.1 rfl ?_
  obtain ⟨r1, h2, h⟩ := zbd_e h
  refine rn_callSi (As := [.int x1, .int (1 : Int32), .int (20 : Int32)]) (rest := []) zl_X12_276 zm_X12_in ⟨by decide, by decide⟩ rfl rfl (Nat.le_of_ble_eq_true rfl) zd_X12_fits_0.1.1.2.2 (ok_X12_in hW h2) ?_
  rcases zif_e h with ⟨hc3, h⟩ | ⟨hc3, h⟩
  · refine rn_if_eq_t (tgt := 22) hc3 zd_X12_fits_0.1.2.1.1 rfl ?_
    refine rn_iconst (v := -1) zd_X12_fits_0.2.1.2.2 rfl ?_
    refine rn_goto (tgt := 32) zd_X12_fits_0.2.2.1.1 rfl ?_
    cases h
    exact rn_iret zd_X12_fits_1.2 rfl
  · refine rn_if_eq_f (tgt := 22) hc3 zd_X12_fits_0.1.2.1.1 rfl ?_
    refine rn_iload_n (q := 2) 2 rfl zd_X12_fits_0.1.2.1.2 ?_
    refine rn_iconst (v := 0) zd_X12_fits_0.1.2.2.1 rfl ?_
    refine rn_aload_n (q := 0) 0 rfl zd_X12_fits_0.1.2.2.2 ?_
    refine rn_getI zf_X12_233 (Or.inl rfl) k_a0 zd_X12_fits_0.2.1.1.1 ?_
    obtain ⟨r4, h5, h⟩ := zbd_e h
    refine rn_callSi (As := [.int x2, .int (0 : Int32), .int (M a0 53)]) (rest := []) zl_X12_276 zm_X12_in ⟨by decide, by decide⟩ rfl rfl (Nat.le_of_ble_eq_true rfl) zd_X12_fits_0.2.1.1.2 (ok_X12_in hW h5) ?_
    rcases zif_e h with ⟨hc6, h⟩ | ⟨hc6, h⟩
    · refine rn_if_ne_f (tgt := 26) hc6 zd_X12_fits_0.2.1.2.1 rfl ?_
      refine rn_iconst (v := -1) zd_X12_fits_0.2.1.2.2 rfl ?_
      refine rn_goto (tgt := 32) zd_X12_fits_0.2.2.1.1 rfl ?_
      cases h
      exact rn_iret zd_X12_fits_1.2 rfl
    · refine rn_if_ne_t (tgt := 26) hc6 zd_X12_fits_0.2.1.2.1 rfl ?_
      refine rn_aload_n (q := 0) 0 rfl zd_X12_fits_0.2.2.1.2 ?_
      refine rn_iload_n (q := 1) 1 rfl zd_X12_fits_0.2.2.2.1 ?_
      refine rn_iload_n (q := 2) 2 rfl zd_X12_fits_0.2.2.2.2 ?_
      obtain ⟨r7, M8, h9, h⟩ := zbd2_e h
      refine rn_callVi (As := [.int x1, .int x2]) (rest := []) zl_X12_377 zm_X12_fillsFits ⟨by decide, by decide⟩ (ci := 12) rfl rfl (by decide) k_a0 rfl rfl (Nat.le_of_ble_eq_true rfl) zd_X12_fits_1.1 (ok_X12_fillsFits hW k_a0 h9) ?_
      cases h
      exact rn_iret zd_X12_fits_1.2 rfl
def f_X12_span (R : zR) (M : zM) (a0 : Nat) (x1 : Int32) (x2 : Int32) (x3 : Int32) : Option (Int32 × zM) :=
  zbd (f_X12_in x1 (1 : Int32) (20 : Int32)) fun r1 =>
  if r1 = 0 then (
    some ((-1 : Int32), M)
  ) else (
    zbd (f_X12_in x2 (0 : Int32) (M a0 53)) fun r4 =>
    if r4 = 0 then (
      some ((-1 : Int32), M)
    ) else (
      zbd (f_X12_isHouse R M a0 x3) fun r7 =>
      if r7 = 0 then (
        some ((-1 : Int32), M)
      ) else (
        zbd2 (f_X12_fillsFits R M a0 x1 x2) fun r10 M11 =>
        if (1 : Int32) ≤ r10 then (
          zck (zin x3 10) <|
          zck (zin x3 10) <|
          some ((((100 : Int32) * (M11 (R a0 57) (ztn x3))) + (M11 (R a0 58) (ztn x3))), M11)
        ) else (
          some ((-2 : Int32), M11)
        )
      )
    )
  )
set_option maxRecDepth 4000 in
theorem ok_X12_span {G : zG} {K : zK} {R : zR} {M : zM} {L : zL} (hW : zWT R K) {a0 : Nat} {x1 : Int32} {x2 : Int32} {x3 : Int32} (k_a0 : K[a0]? = some (12, 61)) {r' : Int32} {M' : zM} (h : f_X12_span R M a0 x1 x2 x3 = some (r', M')) : Rm G mt_X12_span [.ref a0, .int x1, .int x2, .int x3] (M, L, R, K) (some (.int r')) (M', L, R, K) := by
  refine rm_rn rfl rfl (Nat.le_of_ble_eq_true rfl) ?_
  show Rn G mt_X12_span 0 [(0, .ref a0), (1, .int x1), (2, .int x2), (3, .int x3)] [] (M, L, R, K) (some (.int r')) (M', L, R, K)
  unfold f_X12_span at h
  refine rn_iload_n (q := 1) 1 rfl zd_X12_span_0.1.1.1.1 ?_
  refine rn_iconst (v := 1) zd_X12_span_0.1.1.1.2 rfl ?_
  refine rn_bipush (v := 20) zd_X12_span_0.1.1.2.1 rfl ?_
  obtain ⟨r1, h2, h⟩ := zbd_e h
  refine rn_callSi (As := [.int x1, .int (1 : Int32), .int (20 : Int32)]) (rest := []) zl_X12_276 zm_X12_in ⟨by decide, by decide⟩ rfl rfl (Nat.le_of_ble_eq_true rfl) zd_X12_span_0.1.1.2.2 (ok_X12_in hW h2) ?_
  rcases zif_e h with ⟨hc3, h⟩ | ⟨hc3, h⟩
  · refine rn_if_eq_t (tgt := 30) hc3 zd_X12_span_0.1.2.1.1 rfl ?_
    refine rn_iconst (v := -1) zd_X12_span_0.2.2.2.2 rfl ?_
    cases h
    exact rn_iret zd_X12_span_1.1.1.1.1 rfl
  · refine rn_if_eq_f (tgt := 30) hc3 zd_X12_span_0.1.2.1.1 rfl ?_
    refine rn_iload_n (q := 2) 2 rfl zd_X12_span_0.1.2.1.2 ?_
    refine rn_iconst (v := 0) zd_X12_span_0.1.2.2.1 rfl ?_
    refine rn_aload_n (q := 0) 0 rfl zd_X12_span_0.1.2.2.2 ?_
    refine rn_getI zf_X12_233 (Or.inl rfl) k_a0 zd_X12_span_0.2.1.1.1 ?_
    obtain ⟨r4, h5, h⟩ := zbd_e h
    refine rn_callSi (As := [.int x2, .int (0 : Int32), .int (M a0 53)]) (rest := []) zl_X12_276 zm_X12_in ⟨by decide, by decide⟩ rfl rfl (Nat.le_of_ble_eq_true rfl) zd_X12_span_0.2.1.1.2 (ok_X12_in hW h5) ?_
    rcases zif_e h with ⟨hc6, h⟩ | ⟨hc6, h⟩
    · refine rn_if_eq_t (tgt := 30) hc6 zd_X12_span_0.2.1.2.1 rfl ?_
      refine rn_iconst (v := -1) zd_X12_span_0.2.2.2.2 rfl ?_
      cases h
      exact rn_iret zd_X12_span_1.1.1.1.1 rfl
    · refine rn_if_eq_f (tgt := 30) hc6 zd_X12_span_0.2.1.2.1 rfl ?_
      refine rn_aload_n (q := 0) 0 rfl zd_X12_span_0.2.1.2.2 ?_
      refine rn_iload_n (q := 3) 3 rfl zd_X12_span_0.2.2.1.1 ?_
      obtain ⟨r7, h8, h⟩ := zbd_e h
      refine rn_callVi (As := [.int x3]) (rest := []) zl_X12_325 zm_X12_isHouse ⟨by decide, by decide⟩ (ci := 12) rfl rfl (by decide) k_a0 rfl rfl (Nat.le_of_ble_eq_true rfl) zd_X12_span_0.2.2.1.2 (ok_X12_isHouse hW k_a0 h8) ?_
      rcases zif_e h with ⟨hc9, h⟩ | ⟨hc9, h⟩
      · refine rn_if_ne_f (tgt := 32) hc9 zd_X12_span_0.2.2.2.1 rfl ?_
        refine rn_iconst (v := -1) zd_X12_span_0.2.2.2.2 rfl ?_
        cases h
        exact rn_iret zd_X12_span_1.1.1.1.1 rfl
      · refine rn_if_ne_t (tgt := 32) hc9 zd_X12_span_0.2.2.2.1 rfl ?_
        refine rn_aload_n (q := 0) 0 rfl zd_X12_span_1.1.1.1.2 ?_
        refine rn_iload_n (q := 1) 1 rfl zd_X12_span_1.1.1.2.1 ?_
        refine rn_iload_n (q := 2) 2 rfl zd_X12_span_1.1.1.2.2 ?_
        obtain ⟨r10, M11, h12, h⟩ := zbd2_e h
        refine rn_callVi (As := [.int x1, .int x2]) (rest := []) zl_X12_377 zm_X12_fillsFits ⟨by decide, by decide⟩ (ci := 12) rfl rfl (by decide) k_a0 rfl rfl (Nat.le_of_ble_eq_true rfl) zd_X12_span_1.1.2.1.1 (ok_X12_fillsFits hW k_a0 h12) ?_
        refine rn_iconst (v := 1) zd_X12_span_1.1.2.1.2 rfl ?_
        rcases zif_e h with ⟨hc13, h⟩ | ⟨hc13, h⟩
        · refine rn_icmp_ge_t (tgt := 47) hc13 zd_X12_span_1.1.2.2.1 rfl ?_
          refine rn_bipush (v := 100) zd_X12_span_1.2.1.1.2 rfl ?_
          refine rn_aload_n (q := 0) 0 rfl zd_X12_span_1.2.1.2.1 ?_
          refine rn_getR zf_X12_128 (Or.inr ⟨_, rfl⟩) k_a0 (zx_12_57 hW k_a0) zd_X12_span_1.2.1.2.2 ?_
          refine rn_iload_n (q := 3) 3 rfl zd_X12_span_1.2.2.1.1 ?_
          obtain ⟨hc14, h⟩ := zck_e h
          refine rn_iald (zw_12_57 hW k_a0) hc14 zd_X12_span_1.2.2.1.2 ?_
          refine rn_imul zd_X12_span_1.2.2.2.1 ?_
          refine rn_aload_n (q := 0) 0 rfl zd_X12_span_1.2.2.2.2 ?_
          refine rn_getR zf_X12_131 (Or.inr ⟨_, rfl⟩) k_a0 (zx_12_58 hW k_a0) zd_X12_span_2.1.1 ?_
          refine rn_iload_n (q := 3) 3 rfl zd_X12_span_2.1.2 ?_
          obtain ⟨hc15, h⟩ := zck_e h
          refine rn_iald (zw_12_58 hW k_a0) hc15 zd_X12_span_2.2.1 ?_
          refine rn_iadd zd_X12_span_2.2.2.1 ?_
          cases h
          exact rn_iret zd_X12_span_2.2.2.2 rfl
        · refine rn_icmp_ge_f (tgt := 47) hc13 zd_X12_span_1.1.2.2.1 rfl ?_
          refine rn_bipush (v := -2) zd_X12_span_1.1.2.2.2 rfl ?_
          refine rn_goto (tgt := 63) zd_X12_span_1.2.1.1.1 rfl ?_
          cases h
          exact rn_iret zd_X12_span_2.2.2.2 rfl
abbrev P_X12_ago_30 (G : zG) (K : zK) (R : zR) (L : zL) (a0 : Nat) (x1 : Int32) (x2 : Int32) (r : Option Value) (S' : zS) (v : Int32 × Int32 × zM) : Prop := Rn G mt_X12_ago 30 [(0, .ref a0), (1, .int x1), (2, .int x2), (3, .int v.1), (4, .int v.2.1)] [] (v.2.2, L, R, K) r S'
abbrev Q_X12_ago_30 (G : zG) (K : zK) (R : zR) (L : zL) (a0 : Nat) (x1 : Int32) (x2 : Int32) (r : Option Value) (S' : zS) : (Int32 × zM) → Prop := (fun e => Rn G mt_X12_ago 124 [(3, .int e.1)] [] (e.2, L, R, K) r S')
abbrev P_X12_ago_63 (G : zG) (K : zK) (R : zR) (M : zM) (L : zL) (a0 : Nat) (x1 : Int32) (x2 : Int32) (x3 : Int32) (x4 : Int32) (r : Option Value) (S' : zS) (v : Int32 × Int32) : Prop := Rn G mt_X12_ago 63 [(0, .ref a0), (1, .int x1), (2, .int x2), (3, .int x3), (4, .int x4), (5, .int v.1), (6, .int v.2)] [] (M, L, R, K) r S'
abbrev Q_X12_ago_63 (G : zG) (K : zK) (R : zR) (M : zM) (L : zL) (a0 : Nat) (x1 : Int32) (x2 : Int32) (x3 : Int32) (x4 : Int32) (r : Option Value) (S' : zS) : (Int32) → Prop := (fun e => Rn G mt_X12_ago 110 [(0, .ref a0), (1, .int x1), (2, .int x2), (3, .int x3), (4, .int x4), (5, .int e)] [] (M, L, R, K) r S')
def b_X12_ago_63 (R : zR) (M : zM) (a0 : Nat) (x1 : Int32) (x2 : Int32) (x3 : Int32) (x4 : Int32) (x5 : Int32) (x6 : Int32) : Option ((Int32 × Int32) ⊕ ((Int32))) :=
  if (M (R a0 46) (ztn (40 : Int32))) ≤ x6 then (
    some (.inr x5)
  ) else (
    if x5 = 0 then (
      some (.inl ((0 : Int32), (x6 + 1)))
    ) else (
      zck (zin x6 60) <|
      zck (zin x6 60) <|
      if (M (R a0 46) (ztn x6)) = (M (R a0 45) (ztn x6)) then (
        some (.inl ((1 : Int32), (x6 + 1)))
      ) else (
        some (.inl ((0 : Int32), (x6 + 1)))
      )
    )
  )
set_option maxRecDepth 4000 in
theorem ok_b_X12_ago_63 {G : zG} {K : zK} {R : zR} {M : zM} {L : zL} (hW : zWT R K) {a0 : Nat} {x1 : Int32} {x2 : Int32} {x3 : Int32} {x4 : Int32} {x5 : Int32} {x6 : Int32} (k_a0 : K[a0]? = some (12, 61)) {r : Option Value} {S' : zS} {x : (Int32 × Int32) ⊕ ((Int32))} (h : b_X12_ago_63 R M a0 x1 x2 x3 x4 x5 x6 = some x) (hk : Sum.elim (P_X12_ago_63 G K R M L a0 x1 x2 x3 x4 r S') (Q_X12_ago_63 G K R M L a0 x1 x2 x3 x4 r S') x) : P_X12_ago_63 G K R M L a0 x1 x2 x3 x4 r S' (x5, x6) := by
  show Rn G mt_X12_ago 63 [(0, .ref a0), (1, .int x1), (2, .int x2), (3, .int x3), (4, .int x4), (5, .int x5), (6, .int x6)] [] (M, L, R, K) r S'
  unfold b_X12_ago_63 at h
  refine rn_iload 6 rfl zd_X12_ago_2.1.2.2.1 ?_
  refine rn_aload_n (q := 0) 0 rfl zd_X12_ago_2.1.2.2.2 ?_
  refine rn_getR zf_X12_104 (Or.inr ⟨_, rfl⟩) k_a0 (zx_12_46 hW k_a0) zd_X12_ago_2.2.1.1.1 ?_
  refine rn_bipush (v := 40) zd_X12_ago_2.2.1.1.2 rfl ?_
  refine rn_iald (zw_12_46 hW k_a0) (by decide) zd_X12_ago_2.2.1.2.1 ?_
  rcases zif_e h with ⟨hc13, h⟩ | ⟨hc13, h⟩
  · refine rn_icmp_ge_t (tgt := 110) hc13 zd_X12_ago_2.2.1.2.2 rfl ?_
    cases h
    exact rn_sub (ls' := [(0, .ref a0), (1, .int x1), (2, .int x2), (3, .int x3), (4, .int x4), (5, .int x5)]) [0, 1, 2, 3, 4, 5] rfl hk
  · refine rn_icmp_ge_f (tgt := 110) hc13 zd_X12_ago_2.2.1.2.2 rfl ?_
    refine rn_iload 5 rfl zd_X12_ago_2.2.2.1.1 ?_
    rcases zif_e h with ⟨hc14, h⟩ | ⟨hc14, h⟩
    · refine rn_if_eq_t (tgt := 101) hc14 zd_X12_ago_2.2.2.1.2 rfl ?_
      refine rn_iconst (v := 0) zd_X12_ago_3.2.1.1.2 rfl ?_
      refine rn_istore (ls' := [(5, .int (0 : Int32)), (0, .ref a0), (1, .int x1), (2, .int x2), (3, .int x3), (4, .int x4), (6, .int x6)]) (by decide) rfl zd_X12_ago_3.2.1.2.1 ?_
      refine rn_iinc (v := (x6 + 1)) (ls' := [(6, .int (x6 + 1)), (5, .int (0 : Int32)), (0, .ref a0), (1, .int x1), (2, .int x2), (3, .int x3), (4, .int x4)]) 6 rfl rfl (by decide) rfl zd_X12_ago_3.2.1.2.2 ?_
      refine rn_goto (tgt := 63) zd_X12_ago_3.2.2.1.1 rfl ?_
      cases h
      exact rn_sub (ls' := [(0, .ref a0), (1, .int x1), (2, .int x2), (3, .int x3), (4, .int x4), (5, .int (0 : Int32)), (6, .int (x6 + 1))]) [2, 3, 4, 5, 6, 1, 0] rfl hk
    · refine rn_if_eq_f (tgt := 101) hc14 zd_X12_ago_2.2.2.1.2 rfl ?_
      refine rn_aload_n (q := 0) 0 rfl zd_X12_ago_2.2.2.2.1 ?_
      refine rn_getR zf_X12_104 (Or.inr ⟨_, rfl⟩) k_a0 (zx_12_46 hW k_a0) zd_X12_ago_2.2.2.2.2 ?_
      refine rn_iload 6 rfl zd_X12_ago_3.1.1.1.1 ?_
      obtain ⟨hc15, h⟩ := zck_e h
      refine rn_iald (zw_12_46 hW k_a0) hc15 zd_X12_ago_3.1.1.1.2 ?_
      refine rn_aload_n (q := 0) 0 rfl zd_X12_ago_3.1.1.2.1 ?_
      refine rn_getR zf_X12_101 (Or.inr ⟨_, rfl⟩) k_a0 (zx_12_45 hW k_a0) zd_X12_ago_3.1.1.2.2 ?_
      refine rn_iload 6 rfl zd_X12_ago_3.1.2.1.1 ?_
      obtain ⟨hc16, h⟩ := zck_e h
      refine rn_iald (zw_12_45 hW k_a0) hc16 zd_X12_ago_3.1.2.1.2 ?_
      rcases zif_e h with ⟨hc17, h⟩ | ⟨hc17, h⟩
      · refine rn_icmp_ne_f (tgt := 101) hc17 zd_X12_ago_3.1.2.2.1 rfl ?_
        refine rn_iconst (v := 1) zd_X12_ago_3.1.2.2.2 rfl ?_
        refine rn_goto (tgt := 102) zd_X12_ago_3.2.1.1.1 rfl ?_
        refine rn_istore (ls' := [(5, .int (1 : Int32)), (0, .ref a0), (1, .int x1), (2, .int x2), (3, .int x3), (4, .int x4), (6, .int x6)]) (by decide) rfl zd_X12_ago_3.2.1.2.1 ?_
        refine rn_iinc (v := (x6 + 1)) (ls' := [(6, .int (x6 + 1)), (5, .int (1 : Int32)), (0, .ref a0), (1, .int x1), (2, .int x2), (3, .int x3), (4, .int x4)]) 6 rfl rfl (by decide) rfl zd_X12_ago_3.2.1.2.2 ?_
        refine rn_goto (tgt := 63) zd_X12_ago_3.2.2.1.1 rfl ?_
        cases h
        exact rn_sub (ls' := [(0, .ref a0), (1, .int x1), (2, .int x2), (3, .int x3), (4, .int x4), (5, .int (1 : Int32)), (6, .int (x6 + 1))]) [2, 3, 4, 5, 6, 1, 0] rfl hk
      · refine rn_icmp_ne_t (tgt := 101) hc17 zd_X12_ago_3.1.2.2.1 rfl ?_
        refine rn_iconst (v := 0) zd_X12_ago_3.2.1.1.2 rfl ?_
        refine rn_istore (ls' := [(5, .int (0 : Int32)), (0, .ref a0), (1, .int x1), (2, .int x2), (3, .int x3), (4, .int x4), (6, .int x6)]) (by decide) rfl zd_X12_ago_3.2.1.2.1 ?_
        refine rn_iinc (v := (x6 + 1)) (ls' := [(6, .int (x6 + 1)), (5, .int (0 : Int32)), (0, .ref a0), (1, .int x1), (2, .int x2), (3, .int x3), (4, .int x4)]) 6 rfl rfl (by decide) rfl zd_X12_ago_3.2.1.2.2 ?_
        refine rn_goto (tgt := 63) zd_X12_ago_3.2.2.1.1 rfl ?_
        cases h
        exact rn_sub (ls' := [(0, .ref a0), (1, .int x1), (2, .int x2), (3, .int x3), (4, .int x4), (5, .int (0 : Int32)), (6, .int (x6 + 1))]) [2, 3, 4, 5, 6, 1, 0] rfl hk
def b_X12_ago_30 (R : zR) (M : zM) (a0 : Nat) (x1 : Int32) (x2 : Int32) (x3 : Int32) (x4 : Int32) : Option ((Int32 × Int32 × zM) ⊕ ((Int32 × zM))) :=
  if x2 ≤ x4 then (
    some (.inr (x3, M))
  ) else (
    zbd (f_X12_takesRow R M a0 x4 x1) fun M8 =>
    zck (zin (M8 a0 18) 2) <|
    zbd (f_X12_payAll R M8 a0 (M8 (R a0 25) (ztn (M8 a0 18))) (0 : Int32)) fun M11 =>
    zbd (zloop zN (fun v => b_X12_ago_63 R M11 a0 x1 x2 x3 x4 v.1 v.2) ((1 : Int32), (0 : Int32))) fun e18 =>
    if e18 = 0 then (
      some (.inl (x3, (x4 + 1), M11))
    ) else (
      some (.inl ((x3 + 1), (x4 + 1), M11))
    )
  )
set_option maxRecDepth 4000 in
theorem ok_b_X12_ago_30 {G : zG} {K : zK} {R : zR} {M : zM} {L : zL} (hW : zWT R K) {a0 : Nat} {x1 : Int32} {x2 : Int32} {x3 : Int32} {x4 : Int32} (k_a0 : K[a0]? = some (12, 61)) {r : Option Value} {S' : zS} {x : (Int32 × Int32 × zM) ⊕ ((Int32 × zM))} (h : b_X12_ago_30 R M a0 x1 x2 x3 x4 = some x) (hk : Sum.elim (P_X12_ago_30 G K R L a0 x1 x2 r S') (Q_X12_ago_30 G K R L a0 x1 x2 r S') x) : P_X12_ago_30 G K R L a0 x1 x2 r S' (x3, x4, M) := by
  show Rn G mt_X12_ago 30 [(0, .ref a0), (1, .int x1), (2, .int x2), (3, .int x3), (4, .int x4)] [] (M, L, R, K) r S'
  unfold b_X12_ago_30 at h
  refine rn_iload 4 rfl zd_X12_ago_1.1.1.2.2 ?_
  refine rn_iload_n (q := 2) 2 rfl zd_X12_ago_1.1.2.1.1 ?_
  rcases zif_e h with ⟨hc7, h⟩ | ⟨hc7, h⟩
  · refine rn_icmp_ge_t (tgt := 124) hc7 zd_X12_ago_1.1.2.1.2 rfl ?_
    cases h
    exact rn_sub (ls' := [(3, .int x3)]) [3] rfl hk
  · refine rn_icmp_ge_f (tgt := 124) hc7 zd_X12_ago_1.1.2.1.2 rfl ?_
    refine rn_aload_n (q := 0) 0 rfl zd_X12_ago_1.1.2.2.1 ?_
    refine rn_iload 4 rfl zd_X12_ago_1.1.2.2.2 ?_
    refine rn_iload_n (q := 1) 1 rfl zd_X12_ago_1.2.1.1.1 ?_
    obtain ⟨M8, h9, h⟩ := zbd_e h
    refine rn_callVv (As := [.int x4, .int x1]) (rest := []) zl_X12_374 zm_X12_takesRow ⟨by decide, by decide⟩ (ci := 12) rfl rfl (by decide) k_a0 rfl rfl (Nat.le_of_ble_eq_true rfl) zd_X12_ago_1.2.1.1.2 (ok_X12_takesRow hW k_a0 h9) ?_
    refine rn_aload_n (q := 0) 0 rfl zd_X12_ago_1.2.1.2.1 ?_
    refine rn_aload_n (q := 0) 0 rfl zd_X12_ago_1.2.1.2.2 ?_
    refine rn_getR zf_X12_53 (Or.inr ⟨_, rfl⟩) k_a0 (zx_12_25 hW k_a0) zd_X12_ago_1.2.2.1.1 ?_
    refine rn_aload_n (q := 0) 0 rfl zd_X12_ago_1.2.2.1.2 ?_
    refine rn_getI zf_X12_212 (Or.inl rfl) k_a0 zd_X12_ago_1.2.2.2.1 ?_
    obtain ⟨hc10, h⟩ := zck_e h
    refine rn_zald (zw_12_25 hW k_a0) hc10 zd_X12_ago_1.2.2.2.2 ?_
    refine rn_iconst (v := 0) zd_X12_ago_2.1.1.1.1 rfl ?_
    obtain ⟨M11, h12, h⟩ := zbd_e h
    refine rn_callVv (As := [.int (M8 (R a0 25) (ztn (M8 a0 18))), .int (0 : Int32)]) (rest := []) zl_X12_315 zm_X12_payAll ⟨by decide, by decide⟩ (ci := 12) rfl rfl (by decide) k_a0 rfl rfl (Nat.le_of_ble_eq_true rfl) zd_X12_ago_2.1.1.1.2 (ok_X12_payAll hW k_a0 h12) ?_
    refine rn_iconst (v := 1) zd_X12_ago_2.1.1.2.1 rfl ?_
    refine rn_istore (ls' := [(5, .int (1 : Int32)), (0, .ref a0), (1, .int x1), (2, .int x2), (3, .int x3), (4, .int x4)]) (by decide) rfl zd_X12_ago_2.1.1.2.2 ?_
    refine rn_iconst (v := 0) zd_X12_ago_2.1.2.1.1 rfl ?_
    refine rn_istore (ls' := [(6, .int (0 : Int32)), (5, .int (1 : Int32)), (0, .ref a0), (1, .int x1), (2, .int x2), (3, .int x3), (4, .int x4)]) (by decide) rfl zd_X12_ago_2.1.2.1.2 ?_
    obtain ⟨e18, he18, h⟩ := zbd_e h
    refine rn_sub (ls' := [(0, .ref a0), (1, .int x1), (2, .int x2), (3, .int x3), (4, .int x4), (5, .int (1 : Int32)), (6, .int (0 : Int32))]) [2, 3, 4, 5, 6, 1, 0] rfl (zloop_ok (P := P_X12_ago_63 G K R M11 L a0 x1 x2 x3 x4 r S') (Q := Q_X12_ago_63 G K R M11 L a0 x1 x2 x3 x4 r S') (fun v x hx hq => ok_b_X12_ago_63 hW k_a0 hx hq) _ _ _ he18 ?_)
    show Rn G mt_X12_ago 110 [(0, .ref a0), (1, .int x1), (2, .int x2), (3, .int x3), (4, .int x4), (5, .int e18)] [] (M11, L, R, K) r S'
    refine rn_iload 5 rfl zd_X12_ago_3.2.2.1.2 ?_
    rcases zif_e h with ⟨hc19, h⟩ | ⟨hc19, h⟩
    · refine rn_if_eq_t (tgt := 118) hc19 zd_X12_ago_3.2.2.2.1 rfl ?_
      refine rn_iinc (v := (x4 + 1)) (ls' := [(4, .int (x4 + 1)), (0, .ref a0), (1, .int x1), (2, .int x2), (3, .int x3), (5, .int e18)]) 4 rfl rfl (by decide) rfl zd_X12_ago_4.1.1 ?_
      refine rn_goto (tgt := 30) zd_X12_ago_4.1.2 rfl ?_
      cases h
      exact rn_sub (ls' := [(0, .ref a0), (1, .int x1), (2, .int x2), (3, .int x3), (4, .int (x4 + 1))]) [1, 2, 3, 4, 0] rfl hk
    · refine rn_if_eq_f (tgt := 118) hc19 zd_X12_ago_3.2.2.2.1 rfl ?_
      refine rn_iinc (v := (x3 + 1)) (ls' := [(3, .int (x3 + 1)), (0, .ref a0), (1, .int x1), (2, .int x2), (4, .int x4), (5, .int e18)]) 3 rfl rfl (by decide) rfl zd_X12_ago_3.2.2.2.2 ?_
      refine rn_iinc (v := (x4 + 1)) (ls' := [(4, .int (x4 + 1)), (3, .int (x3 + 1)), (0, .ref a0), (1, .int x1), (2, .int x2), (5, .int e18)]) 4 rfl rfl (by decide) rfl zd_X12_ago_4.1.1 ?_
      refine rn_goto (tgt := 30) zd_X12_ago_4.1.2 rfl ?_
      cases h
      exact rn_sub (ls' := [(0, .ref a0), (1, .int x1), (2, .int x2), (3, .int (x3 + 1)), (4, .int (x4 + 1))]) [2, 3, 4, 1, 0] rfl hk
def f_X12_ago (R : zR) (M : zM) (a0 : Nat) (x1 : Int32) : Option (Int32 × zM) :=
  zbd (f_X12_in x1 (1 : Int32) (20 : Int32)) fun r1 =>
  if r1 = 0 then (
    some ((-1 : Int32), M)
  ) else (
    zbd (f_X12_rowsOf R M a0 x1) fun r4 =>
    if 0 ≤ r4 then (
      zbd (zloop zN (fun v => b_X12_ago_30 R v.2.2 a0 x1 r4 v.1 v.2.1) ((0 : Int32), (0 : Int32), M)) fun e20 =>
      some (e20.1, e20.2)
    ) else (
      some ((-2 : Int32), M)
    )
  )
set_option maxRecDepth 4000 in
theorem ok_X12_ago {G : zG} {K : zK} {R : zR} {M : zM} {L : zL} (hW : zWT R K) {a0 : Nat} {x1 : Int32} (k_a0 : K[a0]? = some (12, 61)) {r' : Int32} {M' : zM} (h : f_X12_ago R M a0 x1 = some (r', M')) : Rm G mt_X12_ago [.ref a0, .int x1] (M, L, R, K) (some (.int r')) (M', L, R, K) := by
  refine rm_rn rfl rfl (Nat.le_of_ble_eq_true rfl) ?_
  show Rn G mt_X12_ago 0 [(0, .ref a0), (1, .int x1)] [] (M, L, R, K) (some (.int r')) (M', L, R, K)
  unfold f_X12_ago at h
  refine rn_iload_n (q := 1) 1 rfl zd_X12_ago_0.1.1.1.1 ?_
  refine rn_iconst (v := 1) zd_X12_ago_0.1.1.1.2 rfl ?_
  refine rn_bipush (v := 20) zd_X12_ago_0.1.1.2.1 rfl ?_
  obtain ⟨r1, h2, h⟩ := zbd_e h
  refine rn_callSi (As := [.int x1, .int (1 : Int32), .int (20 : Int32)]) (rest := []) zl_X12_276 zm_X12_in ⟨by decide, by decide⟩ rfl rfl (Nat.le_of_ble_eq_true rfl) zd_X12_ago_0.1.1.2.2 (ok_X12_in hW h2) ?_
  rcases zif_e h with ⟨hc3, h⟩ | ⟨hc3, h⟩
  · refine rn_if_ne_f (tgt := 12) hc3 zd_X12_ago_0.1.2.1.1 rfl ?_
    refine rn_iconst (v := -1) zd_X12_ago_0.1.2.1.2 rfl ?_
    cases h
    exact rn_iret zd_X12_ago_0.1.2.2.1 rfl
  · refine rn_if_ne_t (tgt := 12) hc3 zd_X12_ago_0.1.2.1.1 rfl ?_
    refine rn_aload_n (q := 0) 0 rfl zd_X12_ago_0.1.2.2.2 ?_
    refine rn_iload_n (q := 1) 1 rfl zd_X12_ago_0.2.1.1.1 ?_
    obtain ⟨r4, h5, h⟩ := zbd_e h
    refine rn_callVi (As := [.int x1]) (rest := []) zl_X12_371 zm_X12_rowsOf ⟨by decide, by decide⟩ (ci := 12) rfl rfl (by decide) k_a0 rfl rfl (Nat.le_of_ble_eq_true rfl) zd_X12_ago_0.2.1.1.2 (ok_X12_rowsOf hW k_a0 h5) ?_
    refine rn_istore_n (q := 2) (ls' := [(2, .int r4), (0, .ref a0), (1, .int x1)]) (by decide) rfl zd_X12_ago_0.2.1.2.1 ?_
    refine rn_iload_n (q := 2) 0 rfl zd_X12_ago_0.2.1.2.2 ?_
    rcases zif_e h with ⟨hc6, h⟩ | ⟨hc6, h⟩
    · refine rn_if_ge_t (tgt := 25) hc6 zd_X12_ago_0.2.2.1.1 rfl ?_
      refine rn_iconst (v := 0) zd_X12_ago_0.2.2.2.2 rfl ?_
      refine rn_istore_n (q := 3) (ls' := [(3, .int (0 : Int32)), (2, .int r4), (0, .ref a0), (1, .int x1)]) (by decide) rfl zd_X12_ago_1.1.1.1.1 ?_
      refine rn_iconst (v := 0) zd_X12_ago_1.1.1.1.2 rfl ?_
      refine rn_istore (ls' := [(4, .int (0 : Int32)), (3, .int (0 : Int32)), (2, .int r4), (0, .ref a0), (1, .int x1)]) (by decide) rfl zd_X12_ago_1.1.1.2.1 ?_
      obtain ⟨e20, he20, h⟩ := zbd_e h
      refine rn_sub (ls' := [(0, .ref a0), (1, .int x1), (2, .int r4), (3, .int (0 : Int32)), (4, .int (0 : Int32))]) [3, 4, 2, 1, 0] rfl (zloop_ok (P := P_X12_ago_30 G K R L a0 x1 r4 (some (.int r')) (M', L, R, K)) (Q := Q_X12_ago_30 G K R L a0 x1 r4 (some (.int r')) (M', L, R, K)) (fun v x hx hq => ok_b_X12_ago_30 hW k_a0 hx hq) _ _ _ he20 ?_)
      show Rn G mt_X12_ago 124 [(3, .int e20.1)] [] (e20.2, L, R, K) (some (.int r')) (M', L, R, K)
      refine rn_iload_n (q := 3) 0 rfl zd_X12_ago_4.2.1 ?_
      cases h
      exact rn_iret zd_X12_ago_4.2.2 rfl
    · refine rn_if_ge_f (tgt := 25) hc6 zd_X12_ago_0.2.2.1.1 rfl ?_
      refine rn_bipush (v := -2) zd_X12_ago_0.2.2.1.2 rfl ?_
      cases h
      exact rn_iret zd_X12_ago_0.2.2.2.1 rfl
abbrev P_X12_hold_20 (G : zG) (K : zK) (R : zR) (L : zL) (a0 : Nat) (x1 : Int32) (r : Option Value) (S' : zS) (v : Int32 × zM) : Prop := Rn G mt_X12_hold 20 [(0, .ref a0), (1, .int x1), (2, .int v.1)] [] (v.2, L, R, K) r S'
abbrev Q_X12_hold_20 (G : zG) (K : zK) (R : zR) (L : zL) (a0 : Nat) (x1 : Int32) (r : Option Value) (S' : zS) : (zM) → Prop := (fun e => Rn G mt_X12_hold 49 [] [] (e, L, R, K) r S')
def b_X12_hold_20 (R : zR) (M : zM) (a0 : Nat) (x1 : Int32) (x2 : Int32) : Option ((Int32 × zM) ⊕ ((zM))) :=
  if (60 : Int32) ≤ x2 then (
    some (.inr M)
  ) else (
    zck (zin x2 60) <|
    zck (zin (((60 : Int32) * x1) + x2) 180) <|
    zlt (zup M (R a0 60) (ztn (((60 : Int32) * x1) + x2)) (M (R a0 45) (ztn x2))) fun M9 =>
    some (.inl ((x2 + 1), M9))
  )
set_option maxRecDepth 4000 in
theorem ok_b_X12_hold_20 {G : zG} {K : zK} {R : zR} {M : zM} {L : zL} (hW : zWT R K) {a0 : Nat} {x1 : Int32} {x2 : Int32} (k_a0 : K[a0]? = some (12, 61)) {r : Option Value} {S' : zS} {x : (Int32 × zM) ⊕ ((zM))} (h : b_X12_hold_20 R M a0 x1 x2 = some x) (hk : Sum.elim (P_X12_hold_20 G K R L a0 x1 r S') (Q_X12_hold_20 G K R L a0 x1 r S') x) : P_X12_hold_20 G K R L a0 x1 r S' (x2, M) := by
  show Rn G mt_X12_hold 20 [(0, .ref a0), (1, .int x1), (2, .int x2)] [] (M, L, R, K) r S'
  unfold b_X12_hold_20 at h
  refine rn_iload_n (q := 2) 2 rfl zd_X12_hold_0.2.2.2.1 ?_
  refine rn_bipush (v := 60) zd_X12_hold_0.2.2.2.2 rfl ?_
  rcases zif_e h with ⟨hc6, h⟩ | ⟨hc6, h⟩
  · refine rn_icmp_ge_t (tgt := 49) hc6 zd_X12_hold_1.1.1.1.1 rfl ?_
    cases h
    exact rn_sub (ls' := []) [] rfl hk
  · refine rn_icmp_ge_f (tgt := 49) hc6 zd_X12_hold_1.1.1.1.1 rfl ?_
    refine rn_aload_n (q := 0) 0 rfl zd_X12_hold_1.1.1.1.2 ?_
    refine rn_getR zf_X12_137 (Or.inr ⟨_, rfl⟩) k_a0 (zx_12_60 hW k_a0) zd_X12_hold_1.1.1.2.1 ?_
    refine rn_bipush (v := 60) zd_X12_hold_1.1.1.2.2 rfl ?_
    refine rn_iload_n (q := 1) 1 rfl zd_X12_hold_1.1.2.1.1 ?_
    refine rn_imul zd_X12_hold_1.1.2.1.2 ?_
    refine rn_iload_n (q := 2) 2 rfl zd_X12_hold_1.1.2.2.1 ?_
    refine rn_iadd zd_X12_hold_1.1.2.2.2 ?_
    refine rn_aload_n (q := 0) 0 rfl zd_X12_hold_1.2.1.1.1 ?_
    refine rn_getR zf_X12_101 (Or.inr ⟨_, rfl⟩) k_a0 (zx_12_45 hW k_a0) zd_X12_hold_1.2.1.1.2 ?_
    refine rn_iload_n (q := 2) 2 rfl zd_X12_hold_1.2.1.2.1 ?_
    obtain ⟨hc7, h⟩ := zck_e h
    refine rn_iald (zw_12_45 hW k_a0) hc7 zd_X12_hold_1.2.1.2.2 ?_
    obtain ⟨hc8, h⟩ := zck_e h
    obtain ⟨M9, hM9, h⟩ := zlt_e h
    refine rn_iast hM9 (zw_12_60 hW k_a0) hc8 zd_X12_hold_1.2.2.1.1 ?_
    refine rn_iinc (v := (x2 + 1)) (ls' := [(2, .int (x2 + 1)), (0, .ref a0), (1, .int x1)]) 2 rfl rfl (by decide) rfl zd_X12_hold_1.2.2.1.2 ?_
    refine rn_goto (tgt := 20) zd_X12_hold_1.2.2.2.1 rfl ?_
    cases h
    exact rn_sub (ls' := [(0, .ref a0), (1, .int x1), (2, .int (x2 + 1))]) [1, 2, 0] rfl hk
def f_X12_hold (R : zR) (M : zM) (a0 : Nat) (x1 : Int32) : Option (Int32 × zM) :=
  zbd (f_X12_in x1 (0 : Int32) (2 : Int32)) fun r1 =>
  if r1 = 0 then (
    some ((0 : Int32), M)
  ) else (
    zck (zin x1 3) <|
    zlt (zup M (R a0 59) (ztn x1) (1 : Int32)) fun M5 =>
    zbd (zloop zN (fun v => b_X12_hold_20 R v.2 a0 x1 v.1) ((0 : Int32), M5)) fun e10 =>
    some ((1 : Int32), e10)
  )
set_option maxRecDepth 4000 in
theorem ok_X12_hold {G : zG} {K : zK} {R : zR} {M : zM} {L : zL} (hW : zWT R K) {a0 : Nat} {x1 : Int32} (k_a0 : K[a0]? = some (12, 61)) {r' : Int32} {M' : zM} (h : f_X12_hold R M a0 x1 = some (r', M')) : Rm G mt_X12_hold [.ref a0, .int x1] (M, L, R, K) (some (.int r')) (M', L, R, K) := by
  refine rm_rn rfl rfl (Nat.le_of_ble_eq_true rfl) ?_
  show Rn G mt_X12_hold 0 [(0, .ref a0), (1, .int x1)] [] (M, L, R, K) (some (.int r')) (M', L, R, K)
  unfold f_X12_hold at h
  refine rn_iload_n (q := 1) 1 rfl zd_X12_hold_0.1.1.1.1 ?_
  refine rn_iconst (v := 0) zd_X12_hold_0.1.1.1.2 rfl ?_
  refine rn_iconst (v := 2) zd_X12_hold_0.1.1.2.1 rfl ?_
  obtain ⟨r1, h2, h⟩ := zbd_e h
  refine rn_callSi (As := [.int x1, .int (0 : Int32), .int (2 : Int32)]) (rest := []) zl_X12_276 zm_X12_in ⟨by decide, by decide⟩ rfl rfl (Nat.le_of_ble_eq_true rfl) zd_X12_hold_0.1.1.2.2 (ok_X12_in hW h2) ?_
  rcases zif_e h with ⟨hc3, h⟩ | ⟨hc3, h⟩
  · refine rn_if_ne_f (tgt := 11) hc3 zd_X12_hold_0.1.2.1.1 rfl ?_
    refine rn_iconst (v := 0) zd_X12_hold_0.1.2.1.2 rfl ?_
    cases h
    exact rn_zret zd_X12_hold_0.1.2.2.1 rfl rfl
  · refine rn_if_ne_t (tgt := 11) hc3 zd_X12_hold_0.1.2.1.1 rfl ?_
    refine rn_aload_n (q := 0) 0 rfl zd_X12_hold_0.1.2.2.2 ?_
    refine rn_getR zf_X12_134 (Or.inr ⟨_, rfl⟩) k_a0 (zx_12_59 hW k_a0) zd_X12_hold_0.2.1.1.1 ?_
    refine rn_iload_n (q := 1) 1 rfl zd_X12_hold_0.2.1.1.2 ?_
    refine rn_iconst (v := 1) zd_X12_hold_0.2.1.2.1 rfl ?_
    obtain ⟨hc4, h⟩ := zck_e h
    obtain ⟨M5, hM5, h⟩ := zlt_e h
    refine rn_zast rfl hM5 (zw_12_59 hW k_a0) hc4 zd_X12_hold_0.2.1.2.2 ?_
    refine rn_iconst (v := 0) zd_X12_hold_0.2.2.1.1 rfl ?_
    refine rn_istore_n (q := 2) (ls' := [(2, .int (0 : Int32)), (0, .ref a0), (1, .int x1)]) (by decide) rfl zd_X12_hold_0.2.2.1.2 ?_
    obtain ⟨e10, he10, h⟩ := zbd_e h
    refine rn_sub (ls' := [(0, .ref a0), (1, .int x1), (2, .int (0 : Int32))]) [1, 2, 0] rfl (zloop_ok (P := P_X12_hold_20 G K R L a0 x1 (some (.int r')) (M', L, R, K)) (Q := Q_X12_hold_20 G K R L a0 x1 (some (.int r')) (M', L, R, K)) (fun v x hx hq => ok_b_X12_hold_20 hW k_a0 hx hq) _ _ _ he10 ?_)
    show Rn G mt_X12_hold 49 [] [] (e10, L, R, K) (some (.int r')) (M', L, R, K)
    refine rn_iconst (v := 1) zd_X12_hold_1.2.2.2.2 rfl ?_
    cases h
    exact rn_zret zd_X12_hold_2 rfl rfl
abbrev P_X12_restore_22 (G : zG) (K : zK) (R : zR) (L : zL) (a0 : Nat) (x1 : Int32) (r : Option Value) (S' : zS) (v : Int32 × zM) : Prop := Rn G mt_X12_restore 22 [(0, .ref a0), (1, .int x1), (2, .int v.1)] [] (v.2, L, R, K) r S'
abbrev Q_X12_restore_22 (G : zG) (K : zK) (R : zR) (L : zL) (a0 : Nat) (x1 : Int32) (r : Option Value) (S' : zS) : (zM) → Prop := (fun e => Rn G mt_X12_restore 51 [(0, .ref a0)] [] (e, L, R, K) r S')
def b_X12_restore_22 (R : zR) (M : zM) (a0 : Nat) (x1 : Int32) (x2 : Int32) : Option ((Int32 × zM) ⊕ ((zM))) :=
  if (60 : Int32) ≤ x2 then (
    some (.inr M)
  ) else (
    zck (zin (((60 : Int32) * x1) + x2) 180) <|
    zck (zin x2 60) <|
    zlt (zup M (R a0 45) (ztn x2) (M (R a0 60) (ztn (((60 : Int32) * x1) + x2)))) fun M9 =>
    some (.inl ((x2 + 1), M9))
  )
set_option maxRecDepth 4000 in
theorem ok_b_X12_restore_22 {G : zG} {K : zK} {R : zR} {M : zM} {L : zL} (hW : zWT R K) {a0 : Nat} {x1 : Int32} {x2 : Int32} (k_a0 : K[a0]? = some (12, 61)) {r : Option Value} {S' : zS} {x : (Int32 × zM) ⊕ ((zM))} (h : b_X12_restore_22 R M a0 x1 x2 = some x) (hk : Sum.elim (P_X12_restore_22 G K R L a0 x1 r S') (Q_X12_restore_22 G K R L a0 x1 r S') x) : P_X12_restore_22 G K R L a0 x1 r S' (x2, M) := by
  show Rn G mt_X12_restore 22 [(0, .ref a0), (1, .int x1), (2, .int x2)] [] (M, L, R, K) r S'
  unfold b_X12_restore_22 at h
  refine rn_iload_n (q := 2) 2 rfl zd_X12_restore_0.2.2.2.1 ?_
  refine rn_bipush (v := 60) zd_X12_restore_0.2.2.2.2 rfl ?_
  rcases zif_e h with ⟨hc6, h⟩ | ⟨hc6, h⟩
  · refine rn_icmp_ge_t (tgt := 51) hc6 zd_X12_restore_1.1.1.1.1 rfl ?_
    cases h
    exact rn_sub (ls' := [(0, .ref a0)]) [0] rfl hk
  · refine rn_icmp_ge_f (tgt := 51) hc6 zd_X12_restore_1.1.1.1.1 rfl ?_
    refine rn_aload_n (q := 0) 0 rfl zd_X12_restore_1.1.1.1.2 ?_
    refine rn_getR zf_X12_101 (Or.inr ⟨_, rfl⟩) k_a0 (zx_12_45 hW k_a0) zd_X12_restore_1.1.1.2.1 ?_
    refine rn_iload_n (q := 2) 2 rfl zd_X12_restore_1.1.1.2.2 ?_
    refine rn_aload_n (q := 0) 0 rfl zd_X12_restore_1.1.2.1.1 ?_
    refine rn_getR zf_X12_137 (Or.inr ⟨_, rfl⟩) k_a0 (zx_12_60 hW k_a0) zd_X12_restore_1.1.2.1.2 ?_
    refine rn_bipush (v := 60) zd_X12_restore_1.1.2.2.1 rfl ?_
    refine rn_iload_n (q := 1) 1 rfl zd_X12_restore_1.1.2.2.2 ?_
    refine rn_imul zd_X12_restore_1.2.1.1.1 ?_
    refine rn_iload_n (q := 2) 2 rfl zd_X12_restore_1.2.1.1.2 ?_
    refine rn_iadd zd_X12_restore_1.2.1.2.1 ?_
    obtain ⟨hc7, h⟩ := zck_e h
    refine rn_iald (zw_12_60 hW k_a0) hc7 zd_X12_restore_1.2.1.2.2 ?_
    obtain ⟨hc8, h⟩ := zck_e h
    obtain ⟨M9, hM9, h⟩ := zlt_e h
    refine rn_iast hM9 (zw_12_45 hW k_a0) hc8 zd_X12_restore_1.2.2.1.1 ?_
    refine rn_iinc (v := (x2 + 1)) (ls' := [(2, .int (x2 + 1)), (0, .ref a0), (1, .int x1)]) 2 rfl rfl (by decide) rfl zd_X12_restore_1.2.2.1.2 ?_
    refine rn_goto (tgt := 22) zd_X12_restore_1.2.2.2.1 rfl ?_
    cases h
    exact rn_sub (ls' := [(0, .ref a0), (1, .int x1), (2, .int (x2 + 1))]) [1, 2, 0] rfl hk
def f_X12_restore (R : zR) (M : zM) (a0 : Nat) (x1 : Int32) : Option (Int32 × zM) :=
  zbd (f_X12_in x1 (0 : Int32) (2 : Int32)) fun r1 =>
  if r1 = 0 then (
    some ((0 : Int32), M)
  ) else (
    zck (zin x1 3) <|
    if (M (R a0 59) (ztn x1)) = 0 then (
      some ((0 : Int32), M)
    ) else (
      zbd (zloop zN (fun v => b_X12_restore_22 R v.2 a0 x1 v.1) ((0 : Int32), M)) fun e10 =>
      zlt (zup e10 a0 48 (0 : Int32)) fun M11 =>
      some ((1 : Int32), M11)
    )
  )
set_option maxRecDepth 4000 in
theorem ok_X12_restore {G : zG} {K : zK} {R : zR} {M : zM} {L : zL} (hW : zWT R K) {a0 : Nat} {x1 : Int32} (k_a0 : K[a0]? = some (12, 61)) {r' : Int32} {M' : zM} (h : f_X12_restore R M a0 x1 = some (r', M')) : Rm G mt_X12_restore [.ref a0, .int x1] (M, L, R, K) (some (.int r')) (M', L, R, K) := by
  refine rm_rn rfl rfl (Nat.le_of_ble_eq_true rfl) ?_
  show Rn G mt_X12_restore 0 [(0, .ref a0), (1, .int x1)] [] (M, L, R, K) (some (.int r')) (M', L, R, K)
  unfold f_X12_restore at h
  refine rn_iload_n (q := 1) 1 rfl zd_X12_restore_0.1.1.1.1 ?_
  refine rn_iconst (v := 0) zd_X12_restore_0.1.1.1.2 rfl ?_
  refine rn_iconst (v := 2) zd_X12_restore_0.1.1.2.1 rfl ?_
  obtain ⟨r1, h2, h⟩ := zbd_e h
  refine rn_callSi (As := [.int x1, .int (0 : Int32), .int (2 : Int32)]) (rest := []) zl_X12_276 zm_X12_in ⟨by decide, by decide⟩ rfl rfl (Nat.le_of_ble_eq_true rfl) zd_X12_restore_0.1.1.2.2 (ok_X12_in hW h2) ?_
  rcases zif_e h with ⟨hc3, h⟩ | ⟨hc3, h⟩
  · refine rn_if_eq_t (tgt := 18) hc3 zd_X12_restore_0.1.2.1.1 rfl ?_
    refine rn_iconst (v := 0) zd_X12_restore_0.2.1.2.1 rfl ?_
    cases h
    exact rn_zret zd_X12_restore_0.2.1.2.2 rfl rfl
  · refine rn_if_eq_f (tgt := 18) hc3 zd_X12_restore_0.1.2.1.1 rfl ?_
    refine rn_aload_n (q := 0) 0 rfl zd_X12_restore_0.1.2.1.2 ?_
    refine rn_getR zf_X12_134 (Or.inr ⟨_, rfl⟩) k_a0 (zx_12_59 hW k_a0) zd_X12_restore_0.1.2.2.1 ?_
    refine rn_iload_n (q := 1) 1 rfl zd_X12_restore_0.1.2.2.2 ?_
    obtain ⟨hc4, h⟩ := zck_e h
    refine rn_zald (zw_12_59 hW k_a0) hc4 zd_X12_restore_0.2.1.1.1 ?_
    rcases zif_e h with ⟨hc5, h⟩ | ⟨hc5, h⟩
    · refine rn_if_ne_f (tgt := 20) hc5 zd_X12_restore_0.2.1.1.2 rfl ?_
      refine rn_iconst (v := 0) zd_X12_restore_0.2.1.2.1 rfl ?_
      cases h
      exact rn_zret zd_X12_restore_0.2.1.2.2 rfl rfl
    · refine rn_if_ne_t (tgt := 20) hc5 zd_X12_restore_0.2.1.1.2 rfl ?_
      refine rn_iconst (v := 0) zd_X12_restore_0.2.2.1.1 rfl ?_
      refine rn_istore_n (q := 2) (ls' := [(2, .int (0 : Int32)), (0, .ref a0), (1, .int x1)]) (by decide) rfl zd_X12_restore_0.2.2.1.2 ?_
      obtain ⟨e10, he10, h⟩ := zbd_e h
      refine rn_sub (ls' := [(0, .ref a0), (1, .int x1), (2, .int (0 : Int32))]) [1, 2, 0] rfl (zloop_ok (P := P_X12_restore_22 G K R L a0 x1 (some (.int r')) (M', L, R, K)) (Q := Q_X12_restore_22 G K R L a0 x1 (some (.int r')) (M', L, R, K)) (fun v x hx hq => ok_b_X12_restore_22 hW k_a0 hx hq) _ _ _ he10 ?_)
      show Rn G mt_X12_restore 51 [(0, .ref a0)] [] (e10, L, R, K) (some (.int r')) (M', L, R, K)
      refine rn_aload_n (q := 0) 0 rfl zd_X12_restore_1.2.2.2.2 ?_
      refine rn_iconst (v := 0) zd_X12_restore_2.1.1 rfl ?_
      obtain ⟨M11, hM11, h⟩ := zlt_e h
      refine rn_putI hM11 zf_X12_230 k_a0 zd_X12_restore_2.1.2 ?_
      refine rn_iconst (v := 1) zd_X12_restore_2.2.1 rfl ?_
      cases h
      exact rn_zret zd_X12_restore_2.2.2 rfl rfl
abbrev P_X12_count_152 (G : zG) (K : zK) (R : zR) (M : zM) (L : zL) (a0 : Nat) (r : Option Value) (S' : zS) (v : Int32 × Int32) : Prop := Rn G mt_X12_count 152 [(0, .ref a0), (2, .int v.1), (3, .int v.2)] [] (M, L, R, K) r S'
abbrev Q_X12_count_152 (G : zG) (K : zK) (R : zR) (M : zM) (L : zL) (a0 : Nat) (r : Option Value) (S' : zS) : (Int32) → Prop := (fun e => Rn G mt_X12_count 178 [(2, .int e)] [] (M, L, R, K) r S')
def b_X12_count_152 (R : zR) (M : zM) (a0 : Nat) (x2 : Int32) (x3 : Int32) : Option ((Int32 × Int32) ⊕ ((Int32))) :=
  if (M (R a0 45) (ztn (40 : Int32))) ≤ x3 then (
    some (.inr x2)
  ) else (
    zck (zin x3 60) <|
    some (.inl ((x2 + (M (R a0 45) (ztn x3))), (x3 + 1)))
  )
set_option maxRecDepth 4000 in
theorem ok_b_X12_count_152 {G : zG} {K : zK} {R : zR} {M : zM} {L : zL} (hW : zWT R K) {a0 : Nat} {x2 : Int32} {x3 : Int32} (k_a0 : K[a0]? = some (12, 61)) {r : Option Value} {S' : zS} {x : (Int32 × Int32) ⊕ ((Int32))} (h : b_X12_count_152 R M a0 x2 x3 = some x) (hk : Sum.elim (P_X12_count_152 G K R M L a0 r S') (Q_X12_count_152 G K R M L a0 r S') x) : P_X12_count_152 G K R M L a0 r S' (x2, x3) := by
  show Rn G mt_X12_count 152 [(0, .ref a0), (2, .int x2), (3, .int x3)] [] (M, L, R, K) r S'
  unfold b_X12_count_152 at h
  refine rn_iload_n (q := 3) 2 rfl zd_X12_count_3.1.2.1.2 ?_
  refine rn_aload_n (q := 0) 0 rfl zd_X12_count_3.1.2.2.1 ?_
  refine rn_getR zf_X12_101 (Or.inr ⟨_, rfl⟩) k_a0 (zx_12_45 hW k_a0) zd_X12_count_3.1.2.2.2 ?_
  refine rn_bipush (v := 40) zd_X12_count_3.2.1.1.1 rfl ?_
  refine rn_iald (zw_12_45 hW k_a0) (by decide) zd_X12_count_3.2.1.1.2 ?_
  rcases zif_e h with ⟨hc20, h⟩ | ⟨hc20, h⟩
  · refine rn_icmp_ge_t (tgt := 178) hc20 zd_X12_count_3.2.1.2.1 rfl ?_
    cases h
    exact rn_sub (ls' := [(2, .int x2)]) [1] rfl hk
  · refine rn_icmp_ge_f (tgt := 178) hc20 zd_X12_count_3.2.1.2.1 rfl ?_
    refine rn_iload_n (q := 2) 1 rfl zd_X12_count_3.2.1.2.2 ?_
    refine rn_aload_n (q := 0) 0 rfl zd_X12_count_3.2.2.1.1 ?_
    refine rn_getR zf_X12_101 (Or.inr ⟨_, rfl⟩) k_a0 (zx_12_45 hW k_a0) zd_X12_count_3.2.2.1.2 ?_
    refine rn_iload_n (q := 3) 2 rfl zd_X12_count_3.2.2.2.1 ?_
    obtain ⟨hc21, h⟩ := zck_e h
    refine rn_iald (zw_12_45 hW k_a0) hc21 zd_X12_count_3.2.2.2.2 ?_
    refine rn_iadd zd_X12_count_4.1.1.1.1 ?_
    refine rn_istore_n (q := 2) (ls' := [(2, .int (x2 + (M (R a0 45) (ztn x3)))), (0, .ref a0), (3, .int x3)]) (by decide) rfl zd_X12_count_4.1.1.1.2 ?_
    refine rn_iinc (v := (x3 + 1)) (ls' := [(3, .int (x3 + 1)), (2, .int (x2 + (M (R a0 45) (ztn x3)))), (0, .ref a0)]) 2 rfl rfl (by decide) rfl zd_X12_count_4.1.1.2.1 ?_
    refine rn_goto (tgt := 152) zd_X12_count_4.1.1.2.2 rfl ?_
    cases h
    exact rn_sub (ls' := [(0, .ref a0), (2, .int (x2 + (M (R a0 45) (ztn x3)))), (3, .int (x3 + 1))]) [2, 1, 0] rfl hk
def j_X12_count_246 (R : zR) (M : zM) (s0 : Int32) (s1 : Int32) : Option (Int32) :=
  some (s0 + s1)
set_option maxRecDepth 4000 in
theorem ok_j_X12_count_246 {G : zG} {K : zK} {R : zR} {M : zM} {L : zL} (hW : zWT R K) {s0 : Int32} {s1 : Int32} {r' : Int32} (h : j_X12_count_246 R M s0 s1 = some r') : Rn G mt_X12_count 246 [] [.int s1, .int s0] (M, L, R, K) (some (.int r')) (M, L, R, K) := by
  unfold j_X12_count_246 at h
  refine rn_iadd zd_X12_count_6.2.2.1.2 ?_
  cases h
  exact rn_iret zd_X12_count_6.2.2.2.1 rfl
def j_X12_count_231 (R : zR) (M : zM) (a0 : Nat) (s0 : Int32) (s1 : Int32) : Option (Int32) :=
  if (M (R a0 59) (ztn (2 : Int32))) = 0 then (
    j_X12_count_246 R M (s0 + s1) (0 : Int32)
  ) else (
    j_X12_count_246 R M (s0 + s1) (1 : Int32)
  )
set_option maxRecDepth 4000 in
theorem ok_j_X12_count_231 {G : zG} {K : zK} {R : zR} {M : zM} {L : zL} (hW : zWT R K) {a0 : Nat} {s0 : Int32} {s1 : Int32} (k_a0 : K[a0]? = some (12, 61)) {r' : Int32} (h : j_X12_count_231 R M a0 s0 s1 = some r') : Rn G mt_X12_count 231 [(0, .ref a0)] [.int s1, .int s0] (M, L, R, K) (some (.int r')) (M, L, R, K) := by
  unfold j_X12_count_231 at h
  refine rn_iadd zd_X12_count_6.1.2.1.1 ?_
  refine rn_aload_n (q := 0) 0 rfl zd_X12_count_6.1.2.1.2 ?_
  refine rn_getR zf_X12_134 (Or.inr ⟨_, rfl⟩) k_a0 (zx_12_59 hW k_a0) zd_X12_count_6.1.2.2.1 ?_
  refine rn_iconst (v := 2) zd_X12_count_6.1.2.2.2 rfl ?_
  refine rn_zald (zw_12_59 hW k_a0) (by decide) zd_X12_count_6.2.1.1.1 ?_
  rcases zif_e h with ⟨hc25, h⟩ | ⟨hc25, h⟩
  · refine rn_if_eq_t (tgt := 245) hc25 zd_X12_count_6.2.1.1.2 rfl ?_
    refine rn_iconst (v := 0) zd_X12_count_6.2.2.1.1 rfl ?_
    exact rn_sub (ls' := []) [] rfl (ok_j_X12_count_246 hW h)
  · refine rn_if_eq_f (tgt := 245) hc25 zd_X12_count_6.2.1.1.2 rfl ?_
    refine rn_iconst (v := 1) zd_X12_count_6.2.1.2.1 rfl ?_
    refine rn_goto (tgt := 246) zd_X12_count_6.2.1.2.2 rfl ?_
    exact rn_sub (ls' := []) [] rfl (ok_j_X12_count_246 hW h)
def j_X12_count_217 (R : zR) (M : zM) (a0 : Nat) (s0 : Int32) : Option (Int32) :=
  if (M (R a0 59) (ztn (1 : Int32))) = 0 then (
    j_X12_count_231 R M a0 s0 (0 : Int32)
  ) else (
    j_X12_count_231 R M a0 s0 (1 : Int32)
  )
set_option maxRecDepth 4000 in
theorem ok_j_X12_count_217 {G : zG} {K : zK} {R : zR} {M : zM} {L : zL} (hW : zWT R K) {a0 : Nat} {s0 : Int32} (k_a0 : K[a0]? = some (12, 61)) {r' : Int32} (h : j_X12_count_217 R M a0 s0 = some r') : Rn G mt_X12_count 217 [(0, .ref a0)] [.int s0] (M, L, R, K) (some (.int r')) (M, L, R, K) := by
  unfold j_X12_count_217 at h
  refine rn_aload_n (q := 0) 0 rfl zd_X12_count_5.2.2.1.1 ?_
  refine rn_getR zf_X12_134 (Or.inr ⟨_, rfl⟩) k_a0 (zx_12_59 hW k_a0) zd_X12_count_5.2.2.1.2 ?_
  refine rn_iconst (v := 1) zd_X12_count_5.2.2.2.1 rfl ?_
  refine rn_zald (zw_12_59 hW k_a0) (by decide) zd_X12_count_5.2.2.2.2 ?_
  rcases zif_e h with ⟨hc24, h⟩ | ⟨hc24, h⟩
  · refine rn_if_eq_t (tgt := 230) hc24 zd_X12_count_6.1.1.1.1 rfl ?_
    refine rn_iconst (v := 0) zd_X12_count_6.1.1.2.2 rfl ?_
    exact rn_sub (ls' := [(0, .ref a0)]) [0] rfl (ok_j_X12_count_231 hW k_a0 h)
  · refine rn_if_eq_f (tgt := 230) hc24 zd_X12_count_6.1.1.1.1 rfl ?_
    refine rn_iconst (v := 1) zd_X12_count_6.1.1.1.2 rfl ?_
    refine rn_goto (tgt := 231) zd_X12_count_6.1.1.2.1 rfl ?_
    exact rn_sub (ls' := [(0, .ref a0)]) [0] rfl (ok_j_X12_count_231 hW k_a0 h)
def f_X12_count (R : zR) (M : zM) (a0 : Nat) (x1 : Int32) : Option (Int32) :=
  if x1 = 0 then (
    some (M (R a0 45) (ztn (40 : Int32)))
  ) else (
    if x1 = 1 then (
      zck (zin (M a0 18) 2) <|
      if (M (R a0 24) (ztn (M a0 18))) = 0 then (
        some (0 : Int32)
      ) else (
        some (1 : Int32)
      )
    ) else (
      if x1 = 2 then (
        zck (zin (M a0 18) 2) <|
        if (M (R a0 25) (ztn (M a0 18))) = 0 then (
          some (0 : Int32)
        ) else (
          some (1 : Int32)
        )
      ) else (
        if x1 = 3 then (
          zck (zin (M a0 18) 2) <|
          some (M (R a0 26) (ztn (M a0 18)))
        ) else (
          if x1 = 4 then (
            zck (zin (M a0 18) 2) <|
            some (M (R a0 27) (ztn (M a0 18)))
          ) else (
            if x1 = 5 then (
              some (M (R a0 45) (ztn (41 : Int32)))
            ) else (
              if x1 = 6 then (
                some (M (R a0 45) (ztn (42 : Int32)))
              ) else (
                if x1 = 7 then (
                  zbd (zloop zN (fun v => b_X12_count_152 R M a0 v.1 v.2) ((0 : Int32), (0 : Int32))) fun e22 =>
                  some e22
                ) else (
                  if x1 = 8 then (
                    some (M (R a0 45) (ztn (43 : Int32)))
                  ) else (
                    if x1 = 9 then (
                      some (M a0 2)
                    ) else (
                      if x1 = 10 then (
                        some (M a0 48)
                      ) else (
                        if x1 = 11 then (
                          some (M a0 53)
                        ) else (
                          if x1 = 12 then (
                            if (M (R a0 59) (ztn (0 : Int32))) = 0 then (
                              j_X12_count_217 R M a0 (0 : Int32)
                            ) else (
                              j_X12_count_217 R M a0 (1 : Int32)
                            )
                          ) else (
                            some (-1 : Int32)
                          )
                        )
                      )
                    )
                  )
                )
              )
            )
          )
        )
      )
    )
  )
set_option maxRecDepth 4000 in
theorem ok_X12_count {G : zG} {K : zK} {R : zR} {M : zM} {L : zL} (hW : zWT R K) {a0 : Nat} {x1 : Int32} (k_a0 : K[a0]? = some (12, 61)) {r' : Int32} (h : f_X12_count R M a0 x1 = some r') : Rm G mt_X12_count [.ref a0, .int x1] (M, L, R, K) (some (.int r')) (M, L, R, K) := by
  refine rm_rn rfl rfl (Nat.le_of_ble_eq_true rfl) ?_
  show Rn G mt_X12_count 0 [(0, .ref a0), (1, .int x1)] [] (M, L, R, K) (some (.int r')) (M, L, R, K)
  unfold f_X12_count at h
  refine rn_iload_n (q := 1) 1 rfl zd_X12_count_0.1.1.1.1 ?_
  rcases zif_e h with ⟨hc1, h⟩ | ⟨hc1, h⟩
  · refine rn_tblIn (v := 0) (tgt := 68) zd_X12_count_0.1.1.1.2 (by rw [hc1]; rfl) (by decide) (by decide) rfl rfl ?_
    refine rn_aload_n (q := 0) 0 rfl zd_X12_count_0.1.1.2.1 ?_
    refine rn_getR zf_X12_101 (Or.inr ⟨_, rfl⟩) k_a0 (zx_12_45 hW k_a0) zd_X12_count_0.1.1.2.2 ?_
    refine rn_bipush (v := 40) zd_X12_count_0.1.2.1.1 rfl ?_
    refine rn_iald (zw_12_45 hW k_a0) (by decide) zd_X12_count_0.1.2.1.2 ?_
    cases h
    exact rn_iret zd_X12_count_0.1.2.2.1 rfl
  · rcases zif_e h with ⟨hc2, h⟩ | ⟨hc2, h⟩
    · refine rn_tblIn (v := 1) (tgt := 76) zd_X12_count_0.1.1.1.2 (by rw [hc2]; rfl) (by decide) (by decide) rfl rfl ?_
      refine rn_aload_n (q := 0) 0 rfl zd_X12_count_0.1.2.2.2 ?_
      refine rn_getR zf_X12_49 (Or.inr ⟨_, rfl⟩) k_a0 (zx_12_24 hW k_a0) zd_X12_count_0.2.1.1.1 ?_
      refine rn_aload_n (q := 0) 0 rfl zd_X12_count_0.2.1.1.2 ?_
      refine rn_getI zf_X12_212 (Or.inl rfl) k_a0 zd_X12_count_0.2.1.2.1 ?_
      obtain ⟨hc14, h⟩ := zck_e h
      refine rn_zald (zw_12_24 hW k_a0) hc14 zd_X12_count_0.2.1.2.2 ?_
      rcases zif_e h with ⟨hc15, h⟩ | ⟨hc15, h⟩
      · refine rn_if_eq_t (tgt := 92) hc15 zd_X12_count_0.2.2.1.1 rfl ?_
        refine rn_iconst (v := 0) zd_X12_count_0.2.2.2.2 rfl ?_
        cases h
        exact rn_iret zd_X12_count_1.1.1.1.1 rfl
      · refine rn_if_eq_f (tgt := 92) hc15 zd_X12_count_0.2.2.1.1 rfl ?_
        refine rn_iconst (v := 1) zd_X12_count_0.2.2.1.2 rfl ?_
        refine rn_goto (tgt := 93) zd_X12_count_0.2.2.2.1 rfl ?_
        cases h
        exact rn_iret zd_X12_count_1.1.1.1.1 rfl
    · rcases zif_e h with ⟨hc3, h⟩ | ⟨hc3, h⟩
      · refine rn_tblIn (v := 2) (tgt := 94) zd_X12_count_0.1.1.1.2 (by rw [hc3]; rfl) (by decide) (by decide) rfl rfl ?_
        refine rn_aload_n (q := 0) 0 rfl zd_X12_count_1.1.1.1.2 ?_
        refine rn_getR zf_X12_53 (Or.inr ⟨_, rfl⟩) k_a0 (zx_12_25 hW k_a0) zd_X12_count_1.1.1.2.1 ?_
        refine rn_aload_n (q := 0) 0 rfl zd_X12_count_1.1.1.2.2 ?_
        refine rn_getI zf_X12_212 (Or.inl rfl) k_a0 zd_X12_count_1.1.2.1.1 ?_
        obtain ⟨hc16, h⟩ := zck_e h
        refine rn_zald (zw_12_25 hW k_a0) hc16 zd_X12_count_1.1.2.1.2 ?_
        rcases zif_e h with ⟨hc17, h⟩ | ⟨hc17, h⟩
        · refine rn_if_eq_t (tgt := 110) hc17 zd_X12_count_1.1.2.2.1 rfl ?_
          refine rn_iconst (v := 0) zd_X12_count_1.2.1.1.2 rfl ?_
          cases h
          exact rn_iret zd_X12_count_1.2.1.2.1 rfl
        · refine rn_if_eq_f (tgt := 110) hc17 zd_X12_count_1.1.2.2.1 rfl ?_
          refine rn_iconst (v := 1) zd_X12_count_1.1.2.2.2 rfl ?_
          refine rn_goto (tgt := 111) zd_X12_count_1.2.1.1.1 rfl ?_
          cases h
          exact rn_iret zd_X12_count_1.2.1.2.1 rfl
      · rcases zif_e h with ⟨hc4, h⟩ | ⟨hc4, h⟩
        · refine rn_tblIn (v := 3) (tgt := 112) zd_X12_count_0.1.1.1.2 (by rw [hc4]; rfl) (by decide) (by decide) rfl rfl ?_
          refine rn_aload_n (q := 0) 0 rfl zd_X12_count_1.2.1.2.2 ?_
          refine rn_getR zf_X12_56 (Or.inr ⟨_, rfl⟩) k_a0 (zx_12_26 hW k_a0) zd_X12_count_1.2.2.1.1 ?_
          refine rn_aload_n (q := 0) 0 rfl zd_X12_count_1.2.2.1.2 ?_
          refine rn_getI zf_X12_212 (Or.inl rfl) k_a0 zd_X12_count_1.2.2.2.1 ?_
          obtain ⟨hc18, h⟩ := zck_e h
          refine rn_iald (zw_12_26 hW k_a0) hc18 zd_X12_count_1.2.2.2.2 ?_
          cases h
          exact rn_iret zd_X12_count_2.1.1.1.1 rfl
        · rcases zif_e h with ⟨hc5, h⟩ | ⟨hc5, h⟩
          · refine rn_tblIn (v := 4) (tgt := 122) zd_X12_count_0.1.1.1.2 (by rw [hc5]; rfl) (by decide) (by decide) rfl rfl ?_
            refine rn_aload_n (q := 0) 0 rfl zd_X12_count_2.1.1.1.2 ?_
            refine rn_getR zf_X12_59 (Or.inr ⟨_, rfl⟩) k_a0 (zx_12_27 hW k_a0) zd_X12_count_2.1.1.2.1 ?_
            refine rn_aload_n (q := 0) 0 rfl zd_X12_count_2.1.1.2.2 ?_
            refine rn_getI zf_X12_212 (Or.inl rfl) k_a0 zd_X12_count_2.1.2.1.1 ?_
            obtain ⟨hc19, h⟩ := zck_e h
            refine rn_iald (zw_12_27 hW k_a0) hc19 zd_X12_count_2.1.2.1.2 ?_
            cases h
            exact rn_iret zd_X12_count_2.1.2.2.1 rfl
          · rcases zif_e h with ⟨hc6, h⟩ | ⟨hc6, h⟩
            · refine rn_tblIn (v := 5) (tgt := 132) zd_X12_count_0.1.1.1.2 (by rw [hc6]; rfl) (by decide) (by decide) rfl rfl ?_
              refine rn_aload_n (q := 0) 0 rfl zd_X12_count_2.1.2.2.2 ?_
              refine rn_getR zf_X12_101 (Or.inr ⟨_, rfl⟩) k_a0 (zx_12_45 hW k_a0) zd_X12_count_2.2.1.1.1 ?_
              refine rn_bipush (v := 41) zd_X12_count_2.2.1.1.2 rfl ?_
              refine rn_iald (zw_12_45 hW k_a0) (by decide) zd_X12_count_2.2.1.2.1 ?_
              cases h
              exact rn_iret zd_X12_count_2.2.1.2.2 rfl
            · rcases zif_e h with ⟨hc7, h⟩ | ⟨hc7, h⟩
              · refine rn_tblIn (v := 6) (tgt := 140) zd_X12_count_0.1.1.1.2 (by rw [hc7]; rfl) (by decide) (by decide) rfl rfl ?_
                refine rn_aload_n (q := 0) 0 rfl zd_X12_count_2.2.2.1.1 ?_
                refine rn_getR zf_X12_101 (Or.inr ⟨_, rfl⟩) k_a0 (zx_12_45 hW k_a0) zd_X12_count_2.2.2.1.2 ?_
                refine rn_bipush (v := 42) zd_X12_count_2.2.2.2.1 rfl ?_
                refine rn_iald (zw_12_45 hW k_a0) (by decide) zd_X12_count_2.2.2.2.2 ?_
                cases h
                exact rn_iret zd_X12_count_3.1.1.1.1 rfl
              · rcases zif_e h with ⟨hc8, h⟩ | ⟨hc8, h⟩
                · refine rn_tblIn (v := 7) (tgt := 148) zd_X12_count_0.1.1.1.2 (by rw [hc8]; rfl) (by decide) (by decide) rfl rfl ?_
                  refine rn_iconst (v := 0) zd_X12_count_3.1.1.1.2 rfl ?_
                  refine rn_istore_n (q := 2) (ls' := [(2, .int (0 : Int32)), (0, .ref a0), (1, .int x1)]) (by decide) rfl zd_X12_count_3.1.1.2.1 ?_
                  refine rn_iconst (v := 0) zd_X12_count_3.1.1.2.2 rfl ?_
                  refine rn_istore_n (q := 3) (ls' := [(3, .int (0 : Int32)), (2, .int (0 : Int32)), (0, .ref a0), (1, .int x1)]) (by decide) rfl zd_X12_count_3.1.2.1.1 ?_
                  obtain ⟨e22, he22, h⟩ := zbd_e h
                  refine rn_sub (ls' := [(0, .ref a0), (2, .int (0 : Int32)), (3, .int (0 : Int32))]) [2, 1, 0] rfl (zloop_ok (P := P_X12_count_152 G K R M L a0 (some (.int r')) (M, L, R, K)) (Q := Q_X12_count_152 G K R M L a0 (some (.int r')) (M, L, R, K)) (fun v x hx hq => ok_b_X12_count_152 hW k_a0 hx hq) _ _ _ he22 ?_)
                  show Rn G mt_X12_count 178 [(2, .int e22)] [] (M, L, R, K) (some (.int r')) (M, L, R, K)
                  refine rn_iload_n (q := 2) 0 rfl zd_X12_count_4.1.2.1.1 ?_
                  cases h
                  exact rn_iret zd_X12_count_4.1.2.1.2 rfl
                · rcases zif_e h with ⟨hc9, h⟩ | ⟨hc9, h⟩
                  · refine rn_tblIn (v := 8) (tgt := 180) zd_X12_count_0.1.1.1.2 (by rw [hc9]; rfl) (by decide) (by decide) rfl rfl ?_
                    refine rn_aload_n (q := 0) 0 rfl zd_X12_count_4.1.2.2.1 ?_
                    refine rn_getR zf_X12_101 (Or.inr ⟨_, rfl⟩) k_a0 (zx_12_45 hW k_a0) zd_X12_count_4.1.2.2.2 ?_
                    refine rn_bipush (v := 43) zd_X12_count_4.2.1.1.1 rfl ?_
                    refine rn_iald (zw_12_45 hW k_a0) (by decide) zd_X12_count_4.2.1.1.2 ?_
                    cases h
                    exact rn_iret zd_X12_count_4.2.1.2.1 rfl
                  · rcases zif_e h with ⟨hc10, h⟩ | ⟨hc10, h⟩
                    · refine rn_tblIn (v := 9) (tgt := 188) zd_X12_count_0.1.1.1.2 (by rw [hc10]; rfl) (by decide) (by decide) rfl rfl ?_
                      refine rn_aload_n (q := 0) 0 rfl zd_X12_count_4.2.1.2.2 ?_
                      refine rn_getI zf_X12_144 (Or.inl rfl) k_a0 zd_X12_count_4.2.2.1.1 ?_
                      cases h
                      exact rn_iret zd_X12_count_4.2.2.1.2 rfl
                    · rcases zif_e h with ⟨hc11, h⟩ | ⟨hc11, h⟩
                      · refine rn_tblIn (v := 10) (tgt := 193) zd_X12_count_0.1.1.1.2 (by rw [hc11]; rfl) (by decide) (by decide) rfl rfl ?_
                        refine rn_aload_n (q := 0) 0 rfl zd_X12_count_4.2.2.2.1 ?_
                        refine rn_getI zf_X12_230 (Or.inl rfl) k_a0 zd_X12_count_4.2.2.2.2 ?_
                        cases h
                        exact rn_iret zd_X12_count_5.1.1.1.1 rfl
                      · rcases zif_e h with ⟨hc12, h⟩ | ⟨hc12, h⟩
                        · refine rn_tblIn (v := 11) (tgt := 198) zd_X12_count_0.1.1.1.2 (by rw [hc12]; rfl) (by decide) (by decide) rfl rfl ?_
                          refine rn_aload_n (q := 0) 0 rfl zd_X12_count_5.1.1.1.2 ?_
                          refine rn_getI zf_X12_233 (Or.inl rfl) k_a0 zd_X12_count_5.1.1.2.1 ?_
                          cases h
                          exact rn_iret zd_X12_count_5.1.1.2.2 rfl
                        · rcases zif_e h with ⟨hc13, h⟩ | ⟨hc13, h⟩
                          · refine rn_tblIn (v := 12) (tgt := 203) zd_X12_count_0.1.1.1.2 (by rw [hc13]; rfl) (by decide) (by decide) rfl rfl ?_
                            refine rn_aload_n (q := 0) 0 rfl zd_X12_count_5.1.2.1.1 ?_
                            refine rn_getR zf_X12_134 (Or.inr ⟨_, rfl⟩) k_a0 (zx_12_59 hW k_a0) zd_X12_count_5.1.2.1.2 ?_
                            refine rn_iconst (v := 0) zd_X12_count_5.1.2.2.1 rfl ?_
                            refine rn_zald (zw_12_59 hW k_a0) (by decide) zd_X12_count_5.1.2.2.2 ?_
                            rcases zif_e h with ⟨hc23, h⟩ | ⟨hc23, h⟩
                            · refine rn_if_eq_t (tgt := 216) hc23 zd_X12_count_5.2.1.1.1 rfl ?_
                              refine rn_iconst (v := 0) zd_X12_count_5.2.1.2.2 rfl ?_
                              exact rn_sub (ls' := [(0, .ref a0)]) [0] rfl (ok_j_X12_count_217 hW k_a0 h)
                            · refine rn_if_eq_f (tgt := 216) hc23 zd_X12_count_5.2.1.1.1 rfl ?_
                              refine rn_iconst (v := 1) zd_X12_count_5.2.1.1.2 rfl ?_
                              refine rn_goto (tgt := 217) zd_X12_count_5.2.1.2.1 rfl ?_
                              exact rn_sub (ls' := [(0, .ref a0)]) [0] rfl (ok_j_X12_count_217 hW k_a0 h)
                          · have ht : x1.toInt < 0 ∨ 12 < x1.toInt := by
                              have q0 := zto (n := 0) hc1 rfl
                              have q1 := zto (n := 1) hc2 rfl
                              have q2 := zto (n := 2) hc3 rfl
                              have q3 := zto (n := 3) hc4 rfl
                              have q4 := zto (n := 4) hc5 rfl
                              have q5 := zto (n := 5) hc6 rfl
                              have q6 := zto (n := 6) hc7 rfl
                              have q7 := zto (n := 7) hc8 rfl
                              have q8 := zto (n := 8) hc9 rfl
                              have q9 := zto (n := 9) hc10 rfl
                              have q10 := zto (n := 10) hc11 rfl
                              have q11 := zto (n := 11) hc12 rfl
                              have q12 := zto (n := 12) hc13 rfl
                              omega
                            refine rn_tblOut (tgt := 248) zd_X12_count_0.1.1.1.2 ht rfl ?_
                            refine rn_iconst (v := -1) zd_X12_count_6.2.2.2.2 rfl ?_
                            cases h
                            exact rn_iret zd_X12_count_7 rfl

/-! THE LAW: a case a call -/
abbrev mt_L : zMT := (RL, yL_law, cL_law, 4, some .boolean, 9, 214)
theorem lw_0 {G : zG} {K : zK} {R : zR} {M : zM} {L : zL} {x3 v w : Int32} {r : Option Value} {S' : zS} {M1 : zM} {M2 : zM} (hW : zWT R K) (k2 : K[2]? = some (11, 11)) (k3 : K[242]? = some (12, 61)) (h1 : zin (x3 + 1) (zGn G) = true) (h2 : zin (x3 + 2) (zGn G) = true) (h3 : zin (x3 + 3) (zGn G) = true) (h4 : zin (x3 + 4) (zGn G) = true) (h5 : zin (x3 + 5) (zGn G) = true) (ha : f_X11_feed R M 2 (zGx G (ztn (x3 + 1))) (zGx G (ztn (x3 + 2))) (zGx G (ztn (x3 + 3))) (zGx G (ztn (x3 + 4))) (zGx G (ztn (x3 + 5))) = some (v, M1)) (hb : f_X12_feed R M1 242 (zGx G (ztn (x3 + 1))) (zGx G (ztn (x3 + 2))) (zGx G (ztn (x3 + 3))) (zGx G (ztn (x3 + 4))) (zGx G (ztn (x3 + 5))) = some (w, M2)) (k : Rn G mt_L 1138 [(0, .ref 1), (1, .ref 2), (2, .ref 242), (3, .int x3)] [] (M2, L, R, K) r S') : Rn G mt_L 176 [(0, .ref 1), (1, .ref 2), (2, .ref 242), (3, .int x3)] [] (M, L, R, K) r S' := by
  refine rn_aload_n (q := 1) 1 rfl zd_L_law_1.1.2.2.1 ?_
  refine rn_aload_n (q := 0) 0 rfl zd_L_law_1.1.2.2.2 ?_
  refine rn_iload_n (q := 3) 3 rfl zd_L_law_1.2.1.1.1 ?_
  refine rn_iconst (v := 1) zd_L_law_1.2.1.1.2 rfl ?_
  refine rn_iadd zd_L_law_1.2.1.2.1 ?_
  refine rn_sld h1 zd_L_law_1.2.1.2.2 ?_
  refine rn_aload_n (q := 0) 0 rfl zd_L_law_1.2.2.1.1 ?_
  refine rn_iload_n (q := 3) 3 rfl zd_L_law_1.2.2.1.2 ?_
  refine rn_iconst (v := 2) zd_L_law_1.2.2.2.1 rfl ?_
  refine rn_iadd zd_L_law_1.2.2.2.2 ?_
  refine rn_sld h2 zd_L_law_2.1.1.1.1 ?_
  refine rn_aload_n (q := 0) 0 rfl zd_L_law_2.1.1.1.2 ?_
  refine rn_iload_n (q := 3) 3 rfl zd_L_law_2.1.1.2.1 ?_
  refine rn_iconst (v := 3) zd_L_law_2.1.1.2.2 rfl ?_
  refine rn_iadd zd_L_law_2.1.2.1.1 ?_
  refine rn_sld h3 zd_L_law_2.1.2.1.2 ?_
  refine rn_aload_n (q := 0) 0 rfl zd_L_law_2.1.2.2.1 ?_
  refine rn_iload_n (q := 3) 3 rfl zd_L_law_2.1.2.2.2 ?_
  refine rn_iconst (v := 4) zd_L_law_2.2.1.1.1 rfl ?_
  refine rn_iadd zd_L_law_2.2.1.1.2 ?_
  refine rn_sld h4 zd_L_law_2.2.1.2.1 ?_
  refine rn_aload_n (q := 0) 0 rfl zd_L_law_2.2.1.2.2 ?_
  refine rn_iload_n (q := 3) 3 rfl zd_L_law_2.2.2.1.1 ?_
  refine rn_iconst (v := 5) zd_L_law_2.2.2.1.2 rfl ?_
  refine rn_iadd zd_L_law_2.2.2.2.1 ?_
  refine rn_sld h5 zd_L_law_2.2.2.2.2 ?_
  refine rn_callVi (As := [.int (zGx G (ztn (x3 + 1))), .int (zGx G (ztn (x3 + 2))), .int (zGx G (ztn (x3 + 3))), .int (zGx G (ztn (x3 + 4))), .int (zGx G (ztn (x3 + 5)))]) (rest := []) zl_L_13 zm_X11_feed ⟨by decide, by decide⟩ (ci := 11) rfl rfl (by decide) k2 rfl rfl (Nat.le_of_ble_eq_true rfl) zd_L_law_3.1.1.1.1 (ok_X11_feed hW k2 ha) ?_
  refine rn_pop (v := .int v) zd_L_law_3.1.1.1.2 rfl ?_
  refine rn_aload_n (q := 2) 2 rfl zd_L_law_3.1.1.2.1 ?_
  refine rn_aload_n (q := 0) 0 rfl zd_L_law_3.1.1.2.2 ?_
  refine rn_iload_n (q := 3) 3 rfl zd_L_law_3.1.2.1.1 ?_
  refine rn_iconst (v := 1) zd_L_law_3.1.2.1.2 rfl ?_
  refine rn_iadd zd_L_law_3.1.2.2.1 ?_
  refine rn_sld h1 zd_L_law_3.1.2.2.2 ?_
  refine rn_aload_n (q := 0) 0 rfl zd_L_law_3.2.1.1.1 ?_
  refine rn_iload_n (q := 3) 3 rfl zd_L_law_3.2.1.1.2 ?_
  refine rn_iconst (v := 2) zd_L_law_3.2.1.2.1 rfl ?_
  refine rn_iadd zd_L_law_3.2.1.2.2 ?_
  refine rn_sld h2 zd_L_law_3.2.2.1.1 ?_
  refine rn_aload_n (q := 0) 0 rfl zd_L_law_3.2.2.1.2 ?_
  refine rn_iload_n (q := 3) 3 rfl zd_L_law_3.2.2.2.1 ?_
  refine rn_iconst (v := 3) zd_L_law_3.2.2.2.2 rfl ?_
  refine rn_iadd zd_L_law_4.1.1.1.1 ?_
  refine rn_sld h3 zd_L_law_4.1.1.1.2 ?_
  refine rn_aload_n (q := 0) 0 rfl zd_L_law_4.1.1.2.1 ?_
  refine rn_iload_n (q := 3) 3 rfl zd_L_law_4.1.1.2.2 ?_
  refine rn_iconst (v := 4) zd_L_law_4.1.2.1.1 rfl ?_
  refine rn_iadd zd_L_law_4.1.2.1.2 ?_
  refine rn_sld h4 zd_L_law_4.1.2.2.1 ?_
  refine rn_aload_n (q := 0) 0 rfl zd_L_law_4.1.2.2.2 ?_
  refine rn_iload_n (q := 3) 3 rfl zd_L_law_4.2.1.1.1 ?_
  refine rn_iconst (v := 5) zd_L_law_4.2.1.1.2 rfl ?_
  refine rn_iadd zd_L_law_4.2.1.2.1 ?_
  refine rn_sld h5 zd_L_law_4.2.1.2.2 ?_
  refine rn_callVi (As := [.int (zGx G (ztn (x3 + 1))), .int (zGx G (ztn (x3 + 2))), .int (zGx G (ztn (x3 + 3))), .int (zGx G (ztn (x3 + 4))), .int (zGx G (ztn (x3 + 5)))]) (rest := []) zl_L_17 zm_X12_feed ⟨by decide, by decide⟩ (ci := 12) rfl rfl (by decide) k3 rfl rfl (Nat.le_of_ble_eq_true rfl) zd_L_law_4.2.2.1.1 (ok_X12_feed hW k3 hb) ?_
  refine rn_pop (v := .int w) zd_L_law_4.2.2.1.2 rfl ?_
  exact rn_goto (tgt := 1138) zd_L_law_4.2.2.2.1 rfl k
theorem lw_1 {G : zG} {K : zK} {R : zR} {M : zM} {L : zL} {x3 v w : Int32} {r : Option Value} {S' : zS} {M1 : zM} {M2 : zM} (hW : zWT R K) (k2 : K[2]? = some (11, 11)) (k3 : K[242]? = some (12, 61)) (h1 : zin (x3 + 1) (zGn G) = true) (h2 : zin (x3 + 2) (zGn G) = true) (h3 : zin (x3 + 3) (zGn G) = true) (h4 : zin (x3 + 4) (zGn G) = true) (h5 : zin (x3 + 5) (zGn G) = true) (ha : f_X11_back R M 2 (zGx G (ztn (x3 + 1))) = some (v, M1)) (hb : f_X12_back M1 242 (zGx G (ztn (x3 + 1))) = some (w, M2)) (k : Rn G mt_L 1138 [(0, .ref 1), (1, .ref 2), (2, .ref 242), (3, .int x3)] [] (M2, L, R, K) r S') : Rn G mt_L 239 [(0, .ref 1), (1, .ref 2), (2, .ref 242), (3, .int x3)] [] (M, L, R, K) r S' := by
  refine rn_aload_n (q := 1) 1 rfl zd_L_law_4.2.2.2.2 ?_
  refine rn_aload_n (q := 0) 0 rfl zd_L_law_5.1.1.1.1 ?_
  refine rn_iload_n (q := 3) 3 rfl zd_L_law_5.1.1.1.2 ?_
  refine rn_iconst (v := 1) zd_L_law_5.1.1.2.1 rfl ?_
  refine rn_iadd zd_L_law_5.1.1.2.2 ?_
  refine rn_sld h1 zd_L_law_5.1.2.1.1 ?_
  refine rn_callVi (As := [.int (zGx G (ztn (x3 + 1)))]) (rest := []) zl_L_18 zm_X11_back ⟨by decide, by decide⟩ (ci := 11) rfl rfl (by decide) k2 rfl rfl (Nat.le_of_ble_eq_true rfl) zd_L_law_5.1.2.1.2 (ok_X11_back hW k2 ha) ?_
  refine rn_pop (v := .int v) zd_L_law_5.1.2.2.1 rfl ?_
  refine rn_aload_n (q := 2) 2 rfl zd_L_law_5.1.2.2.2 ?_
  refine rn_aload_n (q := 0) 0 rfl zd_L_law_5.2.1.1.1 ?_
  refine rn_iload_n (q := 3) 3 rfl zd_L_law_5.2.1.1.2 ?_
  refine rn_iconst (v := 1) zd_L_law_5.2.1.2.1 rfl ?_
  refine rn_iadd zd_L_law_5.2.1.2.2 ?_
  refine rn_sld h1 zd_L_law_5.2.2.1.1 ?_
  refine rn_callVi (As := [.int (zGx G (ztn (x3 + 1)))]) (rest := []) zl_L_22 zm_X12_back ⟨by decide, by decide⟩ (ci := 12) rfl rfl (by decide) k3 rfl rfl (Nat.le_of_ble_eq_true rfl) zd_L_law_5.2.2.1.2 (ok_X12_back hW k3 hb) ?_
  refine rn_pop (v := .int w) zd_L_law_5.2.2.2.1 rfl ?_
  exact rn_goto (tgt := 1138) zd_L_law_5.2.2.2.2 rfl k
theorem lw_2 {G : zG} {K : zK} {R : zR} {M : zM} {L : zL} {x3 v w : Int32} {r : Option Value} {S' : zS} {R1 : zR} {M1 : zM} {L1 : zL} {M2 : zM} {L2 : zL} (hW : zWT R K) (hW1 : zWT R1 K) (k2 : K[2]? = some (11, 11)) (k3 : K[242]? = some (12, 61)) (h1 : zin (x3 + 1) (zGn G) = true) (h2 : zin (x3 + 2) (zGn G) = true) (h3 : zin (x3 + 3) (zGn G) = true) (h4 : zin (x3 + 4) (zGn G) = true) (h5 : zin (x3 + 5) (zGn G) = true) (ha : n_X11_read R M L 2 = some (v, R1, M1, L1)) (hb : f_X12_read R1 M1 L1 242 = some (w, M2, L2)) (k : Rn G mt_L 1138 [(0, .ref 1), (1, .ref 2), (2, .ref 242), (3, .int x3)] [] (M2, L2, R1, K) r S') : Rn G mt_L 262 [(0, .ref 1), (1, .ref 2), (2, .ref 242), (3, .int x3)] [] (M, L, R, K) r S' := by
  refine rn_aload_n (q := 1) 1 rfl zd_L_law_6.1.1.1.1 ?_
  refine rn_callVi (As := []) (rest := []) zl_L_23 zm_X11_read ⟨by decide, by decide⟩ (ci := 11) rfl rfl (by decide) k2 rfl rfl (Nat.le_of_ble_eq_true rfl) zd_L_law_6.1.1.1.2 (ok_X11_read hW k2 ha) ?_
  refine rn_pop (v := .int v) zd_L_law_6.1.1.2.1 rfl ?_
  refine rn_aload_n (q := 2) 2 rfl zd_L_law_6.1.1.2.2 ?_
  refine rn_callVi (As := []) (rest := []) zl_L_27 zm_X12_read ⟨by decide, by decide⟩ (ci := 12) rfl rfl (by decide) k3 rfl rfl (Nat.le_of_ble_eq_true rfl) zd_L_law_6.1.2.1.1 (ok_X12_read hW1 k3 hb) ?_
  refine rn_pop (v := .int w) zd_L_law_6.1.2.1.2 rfl ?_
  exact rn_goto (tgt := 1138) zd_L_law_6.1.2.2.1 rfl k
theorem lw_3 {G : zG} {K : zK} {R : zR} {M : zM} {L : zL} {x3 v w : Int32} {r : Option Value} {S' : zS} (hW : zWT R K) (k2 : K[2]? = some (11, 11)) (k3 : K[242]? = some (12, 61)) (h1 : zin (x3 + 1) (zGn G) = true) (h2 : zin (x3 + 2) (zGn G) = true) (h3 : zin (x3 + 3) (zGn G) = true) (h4 : zin (x3 + 4) (zGn G) = true) (h5 : zin (x3 + 5) (zGn G) = true) (ha : f_X11_place M 2 = some v) (hb : f_X12_place M 242 = some w) (k : Rn G mt_L 1138 [(0, .ref 1), (1, .ref 2), (2, .ref 242), (3, .int x3)] [] (M, L, R, K) r S') : Rn G mt_L 275 [(0, .ref 1), (1, .ref 2), (2, .ref 242), (3, .int x3)] [] (M, L, R, K) r S' := by
  refine rn_aload_n (q := 1) 1 rfl zd_L_law_6.1.2.2.2 ?_
  refine rn_callVi (As := []) (rest := []) zl_L_28 zm_X11_place ⟨by decide, by decide⟩ (ci := 11) rfl rfl (by decide) k2 rfl rfl (Nat.le_of_ble_eq_true rfl) zd_L_law_6.2.1.1.1 (ok_X11_place hW k2 ha) ?_
  refine rn_pop (v := .int v) zd_L_law_6.2.1.1.2 rfl ?_
  refine rn_aload_n (q := 2) 2 rfl zd_L_law_6.2.1.2.1 ?_
  refine rn_callVi (As := []) (rest := []) zl_L_31 zm_X12_place ⟨by decide, by decide⟩ (ci := 12) rfl rfl (by decide) k3 rfl rfl (Nat.le_of_ble_eq_true rfl) zd_L_law_6.2.1.2.2 (ok_X12_place hW k3 hb) ?_
  refine rn_pop (v := .int w) zd_L_law_6.2.2.1.1 rfl ?_
  exact rn_goto (tgt := 1138) zd_L_law_6.2.2.1.2 rfl k
theorem lw_4 {G : zG} {K : zK} {R : zR} {M : zM} {L : zL} {x3 v w : Int32} {r : Option Value} {S' : zS} {M1 : zM} {M2 : zM} (hW : zWT R K) (k2 : K[2]? = some (11, 11)) (k3 : K[242]? = some (12, 61)) (h1 : zin (x3 + 1) (zGn G) = true) (h2 : zin (x3 + 2) (zGn G) = true) (h3 : zin (x3 + 3) (zGn G) = true) (h4 : zin (x3 + 4) (zGn G) = true) (h5 : zin (x3 + 5) (zGn G) = true) (ha : n_X11_house R M L 2 (zGx G (ztn (x3 + 1))) (zGx G (ztn (x3 + 2))) = some (v, M1)) (hb : f_X12_house R M1 242 (zGx G (ztn (x3 + 1))) (zGx G (ztn (x3 + 2))) = some (w, M2)) (k : Rn G mt_L 1138 [(0, .ref 1), (1, .ref 2), (2, .ref 242), (3, .int x3)] [] (M2, L, R, K) r S') : Rn G mt_L 288 [(0, .ref 1), (1, .ref 2), (2, .ref 242), (3, .int x3)] [] (M, L, R, K) r S' := by
  refine rn_aload_n (q := 1) 1 rfl zd_L_law_6.2.2.2.1 ?_
  refine rn_aload_n (q := 0) 0 rfl zd_L_law_6.2.2.2.2 ?_
  refine rn_iload_n (q := 3) 3 rfl zd_L_law_7.1.1.1.1 ?_
  refine rn_iconst (v := 1) zd_L_law_7.1.1.1.2 rfl ?_
  refine rn_iadd zd_L_law_7.1.1.2.1 ?_
  refine rn_sld h1 zd_L_law_7.1.1.2.2 ?_
  refine rn_aload_n (q := 0) 0 rfl zd_L_law_7.1.2.1.1 ?_
  refine rn_iload_n (q := 3) 3 rfl zd_L_law_7.1.2.1.2 ?_
  refine rn_iconst (v := 2) zd_L_law_7.1.2.2.1 rfl ?_
  refine rn_iadd zd_L_law_7.1.2.2.2 ?_
  refine rn_sld h2 zd_L_law_7.2.1.1.1 ?_
  refine rn_callVi (As := [.int (zGx G (ztn (x3 + 1))), .int (zGx G (ztn (x3 + 2)))]) (rest := []) zl_L_32 zm_X11_house ⟨by decide, by decide⟩ (ci := 11) rfl rfl (by decide) k2 rfl rfl (Nat.le_of_ble_eq_true rfl) zd_L_law_7.2.1.1.2 (ok_X11_house hW k2 ha) ?_
  refine rn_pop (v := .int v) zd_L_law_7.2.1.2.1 rfl ?_
  refine rn_aload_n (q := 2) 2 rfl zd_L_law_7.2.1.2.2 ?_
  refine rn_aload_n (q := 0) 0 rfl zd_L_law_7.2.2.1.1 ?_
  refine rn_iload_n (q := 3) 3 rfl zd_L_law_7.2.2.1.2 ?_
  refine rn_iconst (v := 1) zd_L_law_7.2.2.2.1 rfl ?_
  refine rn_iadd zd_L_law_7.2.2.2.2 ?_
  refine rn_sld h1 zd_L_law_8.1.1.1.1 ?_
  refine rn_aload_n (q := 0) 0 rfl zd_L_law_8.1.1.1.2 ?_
  refine rn_iload_n (q := 3) 3 rfl zd_L_law_8.1.1.2.1 ?_
  refine rn_iconst (v := 2) zd_L_law_8.1.1.2.2 rfl ?_
  refine rn_iadd zd_L_law_8.1.2.1.1 ?_
  refine rn_sld h2 zd_L_law_8.1.2.1.2 ?_
  refine rn_callVi (As := [.int (zGx G (ztn (x3 + 1))), .int (zGx G (ztn (x3 + 2)))]) (rest := []) zl_L_36 zm_X12_house ⟨by decide, by decide⟩ (ci := 12) rfl rfl (by decide) k3 rfl rfl (Nat.le_of_ble_eq_true rfl) zd_L_law_8.1.2.2.1 (ok_X12_house hW k3 hb) ?_
  refine rn_pop (v := .int w) zd_L_law_8.1.2.2.2 rfl ?_
  exact rn_goto (tgt := 1138) zd_L_law_8.2.1.1.1 rfl k
theorem lw_5 {G : zG} {K : zK} {R : zR} {M : zM} {L : zL} {x3 v w : Int32} {r : Option Value} {S' : zS} {M1 : zM} {L1 : zL} {M2 : zM} (hW : zWT R K) (k2 : K[2]? = some (11, 11)) (k3 : K[242]? = some (12, 61)) (h1 : zin (x3 + 1) (zGn G) = true) (h2 : zin (x3 + 2) (zGn G) = true) (h3 : zin (x3 + 3) (zGn G) = true) (h4 : zin (x3 + 4) (zGn G) = true) (h5 : zin (x3 + 5) (zGn G) = true) (ha : n_X11_run R M L 2 (zGx G (ztn (x3 + 1))) = some (v, M1, L1)) (hb : f_X12_run R M1 242 (zGx G (ztn (x3 + 1))) = some (w, M2)) (k : Rn G mt_L 1138 [(0, .ref 1), (1, .ref 2), (2, .ref 242), (3, .int x3)] [] (M2, L1, R, K) r S') : Rn G mt_L 321 [(0, .ref 1), (1, .ref 2), (2, .ref 242), (3, .int x3)] [] (M, L, R, K) r S' := by
  refine rn_aload_n (q := 1) 1 rfl zd_L_law_8.2.1.1.2 ?_
  refine rn_aload_n (q := 0) 0 rfl zd_L_law_8.2.1.2.1 ?_
  refine rn_iload_n (q := 3) 3 rfl zd_L_law_8.2.1.2.2 ?_
  refine rn_iconst (v := 1) zd_L_law_8.2.2.1.1 rfl ?_
  refine rn_iadd zd_L_law_8.2.2.1.2 ?_
  refine rn_sld h1 zd_L_law_8.2.2.2.1 ?_
  refine rn_callVi (As := [.int (zGx G (ztn (x3 + 1)))]) (rest := []) zl_L_37 zm_X11_run ⟨by decide, by decide⟩ (ci := 11) rfl rfl (by decide) k2 rfl rfl (Nat.le_of_ble_eq_true rfl) zd_L_law_8.2.2.2.2 (ok_X11_run hW k2 ha) ?_
  refine rn_pop (v := .int v) zd_L_law_9.1.1.1.1 rfl ?_
  refine rn_aload_n (q := 2) 2 rfl zd_L_law_9.1.1.1.2 ?_
  refine rn_aload_n (q := 0) 0 rfl zd_L_law_9.1.1.2.1 ?_
  refine rn_iload_n (q := 3) 3 rfl zd_L_law_9.1.1.2.2 ?_
  refine rn_iconst (v := 1) zd_L_law_9.1.2.1.1 rfl ?_
  refine rn_iadd zd_L_law_9.1.2.1.2 ?_
  refine rn_sld h1 zd_L_law_9.1.2.2.1 ?_
  refine rn_callVi (As := [.int (zGx G (ztn (x3 + 1)))]) (rest := []) zl_L_40 zm_X12_run ⟨by decide, by decide⟩ (ci := 12) rfl rfl (by decide) k3 rfl rfl (Nat.le_of_ble_eq_true rfl) zd_L_law_9.1.2.2.2 (ok_X12_run hW k3 hb) ?_
  refine rn_pop (v := .int w) zd_L_law_9.2.1.1.1 rfl ?_
  exact rn_goto (tgt := 1138) zd_L_law_9.2.1.1.2 rfl k
theorem lw_6 {G : zG} {K : zK} {R : zR} {M : zM} {L : zL} {x3 v w : Int32} {r : Option Value} {S' : zS} {M1 : zM} {L1 : zL} {M2 : zM} (hW : zWT R K) (k2 : K[2]? = some (11, 11)) (k3 : K[242]? = some (12, 61)) (h1 : zin (x3 + 1) (zGn G) = true) (h2 : zin (x3 + 2) (zGn G) = true) (h3 : zin (x3 + 3) (zGn G) = true) (h4 : zin (x3 + 4) (zGn G) = true) (h5 : zin (x3 + 5) (zGn G) = true) (ha : n_X11_give R M L 2 (zGx G (ztn (x3 + 1))) (zGx G (ztn (x3 + 2))) (zGx G (ztn (x3 + 3))) = some (v, M1, L1)) (hb : f_X12_give R M1 242 (zGx G (ztn (x3 + 1))) (zGx G (ztn (x3 + 2))) (zGx G (ztn (x3 + 3))) = some (w, M2)) (k : Rn G mt_L 1138 [(0, .ref 1), (1, .ref 2), (2, .ref 242), (3, .int x3)] [] (M2, L1, R, K) r S') : Rn G mt_L 344 [(0, .ref 1), (1, .ref 2), (2, .ref 242), (3, .int x3)] [] (M, L, R, K) r S' := by
  refine rn_aload_n (q := 1) 1 rfl zd_L_law_9.2.1.2.1 ?_
  refine rn_aload_n (q := 0) 0 rfl zd_L_law_9.2.1.2.2 ?_
  refine rn_iload_n (q := 3) 3 rfl zd_L_law_9.2.2.1.1 ?_
  refine rn_iconst (v := 1) zd_L_law_9.2.2.1.2 rfl ?_
  refine rn_iadd zd_L_law_9.2.2.2.1 ?_
  refine rn_sld h1 zd_L_law_9.2.2.2.2 ?_
  refine rn_aload_n (q := 0) 0 rfl zd_L_law_10.1.1.1.1 ?_
  refine rn_iload_n (q := 3) 3 rfl zd_L_law_10.1.1.1.2 ?_
  refine rn_iconst (v := 2) zd_L_law_10.1.1.2.1 rfl ?_
  refine rn_iadd zd_L_law_10.1.1.2.2 ?_
  refine rn_sld h2 zd_L_law_10.1.2.1.1 ?_
  refine rn_aload_n (q := 0) 0 rfl zd_L_law_10.1.2.1.2 ?_
  refine rn_iload_n (q := 3) 3 rfl zd_L_law_10.1.2.2.1 ?_
  refine rn_iconst (v := 3) zd_L_law_10.1.2.2.2 rfl ?_
  refine rn_iadd zd_L_law_10.2.1.1.1 ?_
  refine rn_sld h3 zd_L_law_10.2.1.1.2 ?_
  refine rn_callVi (As := [.int (zGx G (ztn (x3 + 1))), .int (zGx G (ztn (x3 + 2))), .int (zGx G (ztn (x3 + 3)))]) (rest := []) zl_L_41 zm_X11_give ⟨by decide, by decide⟩ (ci := 11) rfl rfl (by decide) k2 rfl rfl (Nat.le_of_ble_eq_true rfl) zd_L_law_10.2.1.2.1 (ok_X11_give hW k2 ha) ?_
  refine rn_pop (v := .int v) zd_L_law_10.2.1.2.2 rfl ?_
  refine rn_aload_n (q := 2) 2 rfl zd_L_law_10.2.2.1.1 ?_
  refine rn_aload_n (q := 0) 0 rfl zd_L_law_10.2.2.1.2 ?_
  refine rn_iload_n (q := 3) 3 rfl zd_L_law_10.2.2.2.1 ?_
  refine rn_iconst (v := 1) zd_L_law_10.2.2.2.2 rfl ?_
  refine rn_iadd zd_L_law_11.1.1.1.1 ?_
  refine rn_sld h1 zd_L_law_11.1.1.1.2 ?_
  refine rn_aload_n (q := 0) 0 rfl zd_L_law_11.1.1.2.1 ?_
  refine rn_iload_n (q := 3) 3 rfl zd_L_law_11.1.1.2.2 ?_
  refine rn_iconst (v := 2) zd_L_law_11.1.2.1.1 rfl ?_
  refine rn_iadd zd_L_law_11.1.2.1.2 ?_
  refine rn_sld h2 zd_L_law_11.1.2.2.1 ?_
  refine rn_aload_n (q := 0) 0 rfl zd_L_law_11.1.2.2.2 ?_
  refine rn_iload_n (q := 3) 3 rfl zd_L_law_11.2.1.1.1 ?_
  refine rn_iconst (v := 3) zd_L_law_11.2.1.1.2 rfl ?_
  refine rn_iadd zd_L_law_11.2.1.2.1 ?_
  refine rn_sld h3 zd_L_law_11.2.1.2.2 ?_
  refine rn_callVi (As := [.int (zGx G (ztn (x3 + 1))), .int (zGx G (ztn (x3 + 2))), .int (zGx G (ztn (x3 + 3)))]) (rest := []) zl_L_45 zm_X12_give ⟨by decide, by decide⟩ (ci := 12) rfl rfl (by decide) k3 rfl rfl (Nat.le_of_ble_eq_true rfl) zd_L_law_11.2.2.1.1 (ok_X12_give hW k3 hb) ?_
  refine rn_pop (v := .int w) zd_L_law_11.2.2.1.2 rfl ?_
  exact rn_goto (tgt := 1138) zd_L_law_11.2.2.2.1 rfl k
theorem lw_7 {G : zG} {K : zK} {R : zR} {M : zM} {L : zL} {x3 v w : Int32} {r : Option Value} {S' : zS} {M1 : zM} {L1 : zL} {M2 : zM} (hW : zWT R K) (k2 : K[2]? = some (11, 11)) (k3 : K[242]? = some (12, 61)) (h1 : zin (x3 + 1) (zGn G) = true) (h2 : zin (x3 + 2) (zGn G) = true) (h3 : zin (x3 + 3) (zGn G) = true) (h4 : zin (x3 + 4) (zGn G) = true) (h5 : zin (x3 + 5) (zGn G) = true) (ha : n_X11_hide R M L 2 (zGx G (ztn (x3 + 1))) (zGx G (ztn (x3 + 2))) = some (v, M1, L1)) (hb : f_X12_hide R M1 242 (zGx G (ztn (x3 + 1))) (zGx G (ztn (x3 + 2))) = some (w, M2)) (k : Rn G mt_L 1138 [(0, .ref 1), (1, .ref 2), (2, .ref 242), (3, .int x3)] [] (M2, L1, R, K) r S') : Rn G mt_L 387 [(0, .ref 1), (1, .ref 2), (2, .ref 242), (3, .int x3)] [] (M, L, R, K) r S' := by
  refine rn_aload_n (q := 1) 1 rfl zd_L_law_11.2.2.2.2 ?_
  refine rn_aload_n (q := 0) 0 rfl zd_L_law_12.1.1.1.1 ?_
  refine rn_iload_n (q := 3) 3 rfl zd_L_law_12.1.1.1.2 ?_
  refine rn_iconst (v := 1) zd_L_law_12.1.1.2.1 rfl ?_
  refine rn_iadd zd_L_law_12.1.1.2.2 ?_
  refine rn_sld h1 zd_L_law_12.1.2.1.1 ?_
  refine rn_aload_n (q := 0) 0 rfl zd_L_law_12.1.2.1.2 ?_
  refine rn_iload_n (q := 3) 3 rfl zd_L_law_12.1.2.2.1 ?_
  refine rn_iconst (v := 2) zd_L_law_12.1.2.2.2 rfl ?_
  refine rn_iadd zd_L_law_12.2.1.1.1 ?_
  refine rn_sld h2 zd_L_law_12.2.1.1.2 ?_
  refine rn_callVi (As := [.int (zGx G (ztn (x3 + 1))), .int (zGx G (ztn (x3 + 2)))]) (rest := []) zl_L_46 zm_X11_hide ⟨by decide, by decide⟩ (ci := 11) rfl rfl (by decide) k2 rfl rfl (Nat.le_of_ble_eq_true rfl) zd_L_law_12.2.1.2.1 (ok_X11_hide hW k2 ha) ?_
  refine rn_pop (v := .int v) zd_L_law_12.2.1.2.2 rfl ?_
  refine rn_aload_n (q := 2) 2 rfl zd_L_law_12.2.2.1.1 ?_
  refine rn_aload_n (q := 0) 0 rfl zd_L_law_12.2.2.1.2 ?_
  refine rn_iload_n (q := 3) 3 rfl zd_L_law_12.2.2.2.1 ?_
  refine rn_iconst (v := 1) zd_L_law_12.2.2.2.2 rfl ?_
  refine rn_iadd zd_L_law_13.1.1.1.1 ?_
  refine rn_sld h1 zd_L_law_13.1.1.1.2 ?_
  refine rn_aload_n (q := 0) 0 rfl zd_L_law_13.1.1.2.1 ?_
  refine rn_iload_n (q := 3) 3 rfl zd_L_law_13.1.1.2.2 ?_
  refine rn_iconst (v := 2) zd_L_law_13.1.2.1.1 rfl ?_
  refine rn_iadd zd_L_law_13.1.2.1.2 ?_
  refine rn_sld h2 zd_L_law_13.1.2.2.1 ?_
  refine rn_callVi (As := [.int (zGx G (ztn (x3 + 1))), .int (zGx G (ztn (x3 + 2)))]) (rest := []) zl_L_50 zm_X12_hide ⟨by decide, by decide⟩ (ci := 12) rfl rfl (by decide) k3 rfl rfl (Nat.le_of_ble_eq_true rfl) zd_L_law_13.1.2.2.2 (ok_X12_hide hW k3 hb) ?_
  refine rn_pop (v := .int w) zd_L_law_13.2.1.1.1 rfl ?_
  exact rn_goto (tgt := 1138) zd_L_law_13.2.1.1.2 rfl k
theorem lw_8 {G : zG} {K : zK} {R : zR} {M : zM} {L : zL} {x3 v w : Int32} {r : Option Value} {S' : zS} {M1 : zM} {L1 : zL} {M2 : zM} (hW : zWT R K) (k2 : K[2]? = some (11, 11)) (k3 : K[242]? = some (12, 61)) (h1 : zin (x3 + 1) (zGn G) = true) (h2 : zin (x3 + 2) (zGn G) = true) (h3 : zin (x3 + 3) (zGn G) = true) (h4 : zin (x3 + 4) (zGn G) = true) (h5 : zin (x3 + 5) (zGn G) = true) (ha : n_X11_grab R M L 2 (zGx G (ztn (x3 + 1))) = some (v, M1, L1)) (hb : f_X12_grab R M1 242 (zGx G (ztn (x3 + 1))) = some (w, M2)) (k : Rn G mt_L 1138 [(0, .ref 1), (1, .ref 2), (2, .ref 242), (3, .int x3)] [] (M2, L1, R, K) r S') : Rn G mt_L 420 [(0, .ref 1), (1, .ref 2), (2, .ref 242), (3, .int x3)] [] (M, L, R, K) r S' := by
  refine rn_aload_n (q := 1) 1 rfl zd_L_law_13.2.1.2.1 ?_
  refine rn_aload_n (q := 0) 0 rfl zd_L_law_13.2.1.2.2 ?_
  refine rn_iload_n (q := 3) 3 rfl zd_L_law_13.2.2.1.1 ?_
  refine rn_iconst (v := 1) zd_L_law_13.2.2.1.2 rfl ?_
  refine rn_iadd zd_L_law_13.2.2.2.1 ?_
  refine rn_sld h1 zd_L_law_13.2.2.2.2 ?_
  refine rn_callVi (As := [.int (zGx G (ztn (x3 + 1)))]) (rest := []) zl_L_51 zm_X11_grab ⟨by decide, by decide⟩ (ci := 11) rfl rfl (by decide) k2 rfl rfl (Nat.le_of_ble_eq_true rfl) zd_L_law_14.1.1.1.1 (ok_X11_grab hW k2 ha) ?_
  refine rn_pop (v := .int v) zd_L_law_14.1.1.1.2 rfl ?_
  refine rn_aload_n (q := 2) 2 rfl zd_L_law_14.1.1.2.1 ?_
  refine rn_aload_n (q := 0) 0 rfl zd_L_law_14.1.1.2.2 ?_
  refine rn_iload_n (q := 3) 3 rfl zd_L_law_14.1.2.1.1 ?_
  refine rn_iconst (v := 1) zd_L_law_14.1.2.1.2 rfl ?_
  refine rn_iadd zd_L_law_14.1.2.2.1 ?_
  refine rn_sld h1 zd_L_law_14.1.2.2.2 ?_
  refine rn_callVi (As := [.int (zGx G (ztn (x3 + 1)))]) (rest := []) zl_L_54 zm_X12_grab ⟨by decide, by decide⟩ (ci := 12) rfl rfl (by decide) k3 rfl rfl (Nat.le_of_ble_eq_true rfl) zd_L_law_14.2.1.1.1 (ok_X12_grab hW k3 hb) ?_
  refine rn_pop (v := .int w) zd_L_law_14.2.1.1.2 rfl ?_
  exact rn_goto (tgt := 1138) zd_L_law_14.2.1.2.1 rfl k
theorem lw_9 {G : zG} {K : zK} {R : zR} {M : zM} {L : zL} {x3 v w : Int32} {r : Option Value} {S' : zS} {M1 : zM} {L1 : zL} {M2 : zM} (hW : zWT R K) (k2 : K[2]? = some (11, 11)) (k3 : K[242]? = some (12, 61)) (h1 : zin (x3 + 1) (zGn G) = true) (h2 : zin (x3 + 2) (zGn G) = true) (h3 : zin (x3 + 3) (zGn G) = true) (h4 : zin (x3 + 4) (zGn G) = true) (h5 : zin (x3 + 5) (zGn G) = true) (ha : n_X11_build R M L 2 (zGx G (ztn (x3 + 1))) (zGx G (ztn (x3 + 2))) = some (v, M1, L1)) (hb : f_X12_build R M1 242 (zGx G (ztn (x3 + 1))) (zGx G (ztn (x3 + 2))) = some (w, M2)) (k : Rn G mt_L 1138 [(0, .ref 1), (1, .ref 2), (2, .ref 242), (3, .int x3)] [] (M2, L1, R, K) r S') : Rn G mt_L 443 [(0, .ref 1), (1, .ref 2), (2, .ref 242), (3, .int x3)] [] (M, L, R, K) r S' := by
  refine rn_aload_n (q := 1) 1 rfl zd_L_law_14.2.1.2.2 ?_
  refine rn_aload_n (q := 0) 0 rfl zd_L_law_14.2.2.1.1 ?_
  refine rn_iload_n (q := 3) 3 rfl zd_L_law_14.2.2.1.2 ?_
  refine rn_iconst (v := 1) zd_L_law_14.2.2.2.1 rfl ?_
  refine rn_iadd zd_L_law_14.2.2.2.2 ?_
  refine rn_sld h1 zd_L_law_15.1.1.1.1 ?_
  refine rn_aload_n (q := 0) 0 rfl zd_L_law_15.1.1.1.2 ?_
  refine rn_iload_n (q := 3) 3 rfl zd_L_law_15.1.1.2.1 ?_
  refine rn_iconst (v := 2) zd_L_law_15.1.1.2.2 rfl ?_
  refine rn_iadd zd_L_law_15.1.2.1.1 ?_
  refine rn_sld h2 zd_L_law_15.1.2.1.2 ?_
  refine rn_callVi (As := [.int (zGx G (ztn (x3 + 1))), .int (zGx G (ztn (x3 + 2)))]) (rest := []) zl_L_55 zm_X11_build ⟨by decide, by decide⟩ (ci := 11) rfl rfl (by decide) k2 rfl rfl (Nat.le_of_ble_eq_true rfl) zd_L_law_15.1.2.2.1 (ok_X11_build hW k2 ha) ?_
  refine rn_pop (v := .int v) zd_L_law_15.1.2.2.2 rfl ?_
  refine rn_aload_n (q := 2) 2 rfl zd_L_law_15.2.1.1.1 ?_
  refine rn_aload_n (q := 0) 0 rfl zd_L_law_15.2.1.1.2 ?_
  refine rn_iload_n (q := 3) 3 rfl zd_L_law_15.2.1.2.1 ?_
  refine rn_iconst (v := 1) zd_L_law_15.2.1.2.2 rfl ?_
  refine rn_iadd zd_L_law_15.2.2.1.1 ?_
  refine rn_sld h1 zd_L_law_15.2.2.1.2 ?_
  refine rn_aload_n (q := 0) 0 rfl zd_L_law_15.2.2.2.1 ?_
  refine rn_iload_n (q := 3) 3 rfl zd_L_law_15.2.2.2.2 ?_
  refine rn_iconst (v := 2) zd_L_law_16.1.1.1.1 rfl ?_
  refine rn_iadd zd_L_law_16.1.1.1.2 ?_
  refine rn_sld h2 zd_L_law_16.1.1.2.1 ?_
  refine rn_callVi (As := [.int (zGx G (ztn (x3 + 1))), .int (zGx G (ztn (x3 + 2)))]) (rest := []) zl_L_58 zm_X12_build ⟨by decide, by decide⟩ (ci := 12) rfl rfl (by decide) k3 rfl rfl (Nat.le_of_ble_eq_true rfl) zd_L_law_16.1.1.2.2 (ok_X12_build hW k3 hb) ?_
  refine rn_pop (v := .int w) zd_L_law_16.1.2.1.1 rfl ?_
  exact rn_goto (tgt := 1138) zd_L_law_16.1.2.1.2 rfl k
theorem lw_10 {G : zG} {K : zK} {R : zR} {M : zM} {L : zL} {x3 v w : Int32} {r : Option Value} {S' : zS} {M1 : zM} {L1 : zL} {M2 : zM} (hW : zWT R K) (k2 : K[2]? = some (11, 11)) (k3 : K[242]? = some (12, 61)) (h1 : zin (x3 + 1) (zGn G) = true) (h2 : zin (x3 + 2) (zGn G) = true) (h3 : zin (x3 + 3) (zGn G) = true) (h4 : zin (x3 + 4) (zGn G) = true) (h5 : zin (x3 + 5) (zGn G) = true) (ha : n_X11_burn R M L 2 (zGx G (ztn (x3 + 1))) = some (v, M1, L1)) (hb : f_X12_burn R M1 242 (zGx G (ztn (x3 + 1))) = some (w, M2)) (k : Rn G mt_L 1138 [(0, .ref 1), (1, .ref 2), (2, .ref 242), (3, .int x3)] [] (M2, L1, R, K) r S') : Rn G mt_L 476 [(0, .ref 1), (1, .ref 2), (2, .ref 242), (3, .int x3)] [] (M, L, R, K) r S' := by
  refine rn_aload_n (q := 1) 1 rfl zd_L_law_16.1.2.2.1 ?_
  refine rn_aload_n (q := 0) 0 rfl zd_L_law_16.1.2.2.2 ?_
  refine rn_iload_n (q := 3) 3 rfl zd_L_law_16.2.1.1.1 ?_
  refine rn_iconst (v := 1) zd_L_law_16.2.1.1.2 rfl ?_
  refine rn_iadd zd_L_law_16.2.1.2.1 ?_
  refine rn_sld h1 zd_L_law_16.2.1.2.2 ?_
  refine rn_callVi (As := [.int (zGx G (ztn (x3 + 1)))]) (rest := []) zl_L_59 zm_X11_burn ⟨by decide, by decide⟩ (ci := 11) rfl rfl (by decide) k2 rfl rfl (Nat.le_of_ble_eq_true rfl) zd_L_law_16.2.2.1.1 (ok_X11_burn hW k2 ha) ?_
  refine rn_pop (v := .int v) zd_L_law_16.2.2.1.2 rfl ?_
  refine rn_aload_n (q := 2) 2 rfl zd_L_law_16.2.2.2.1 ?_
  refine rn_aload_n (q := 0) 0 rfl zd_L_law_16.2.2.2.2 ?_
  refine rn_iload_n (q := 3) 3 rfl zd_L_law_17.1.1.1.1 ?_
  refine rn_iconst (v := 1) zd_L_law_17.1.1.1.2 rfl ?_
  refine rn_iadd zd_L_law_17.1.1.2.1 ?_
  refine rn_sld h1 zd_L_law_17.1.1.2.2 ?_
  refine rn_callVi (As := [.int (zGx G (ztn (x3 + 1)))]) (rest := []) zl_L_62 zm_X12_burn ⟨by decide, by decide⟩ (ci := 12) rfl rfl (by decide) k3 rfl rfl (Nat.le_of_ble_eq_true rfl) zd_L_law_17.1.2.1.1 (ok_X12_burn hW k3 hb) ?_
  refine rn_pop (v := .int w) zd_L_law_17.1.2.1.2 rfl ?_
  exact rn_goto (tgt := 1138) zd_L_law_17.1.2.2.1 rfl k
theorem lw_11 {G : zG} {K : zK} {R : zR} {M : zM} {L : zL} {x3 v w : Int32} {r : Option Value} {S' : zS} {M1 : zM} {L1 : zL} {M2 : zM} (hW : zWT R K) (k2 : K[2]? = some (11, 11)) (k3 : K[242]? = some (12, 61)) (h1 : zin (x3 + 1) (zGn G) = true) (h2 : zin (x3 + 2) (zGn G) = true) (h3 : zin (x3 + 3) (zGn G) = true) (h4 : zin (x3 + 4) (zGn G) = true) (h5 : zin (x3 + 5) (zGn G) = true) (ha : n_X11_join R M L 2 (zGx G (ztn (x3 + 1))) = some (v, M1, L1)) (hb : f_X12_join R M1 242 (zGx G (ztn (x3 + 1))) = some (w, M2)) (k : Rn G mt_L 1138 [(0, .ref 1), (1, .ref 2), (2, .ref 242), (3, .int x3)] [] (M2, L1, R, K) r S') : Rn G mt_L 499 [(0, .ref 1), (1, .ref 2), (2, .ref 242), (3, .int x3)] [] (M, L, R, K) r S' := by
  refine rn_aload_n (q := 1) 1 rfl zd_L_law_17.1.2.2.2 ?_
  refine rn_aload_n (q := 0) 0 rfl zd_L_law_17.2.1.1.1 ?_
  refine rn_iload_n (q := 3) 3 rfl zd_L_law_17.2.1.1.2 ?_
  refine rn_iconst (v := 1) zd_L_law_17.2.1.2.1 rfl ?_
  refine rn_iadd zd_L_law_17.2.1.2.2 ?_
  refine rn_sld h1 zd_L_law_17.2.2.1.1 ?_
  refine rn_callVi (As := [.int (zGx G (ztn (x3 + 1)))]) (rest := []) zl_L_63 zm_X11_join ⟨by decide, by decide⟩ (ci := 11) rfl rfl (by decide) k2 rfl rfl (Nat.le_of_ble_eq_true rfl) zd_L_law_17.2.2.1.2 (ok_X11_join hW k2 ha) ?_
  refine rn_pop (v := .int v) zd_L_law_17.2.2.2.1 rfl ?_
  refine rn_aload_n (q := 2) 2 rfl zd_L_law_17.2.2.2.2 ?_
  refine rn_aload_n (q := 0) 0 rfl zd_L_law_18.1.1.1.1 ?_
  refine rn_iload_n (q := 3) 3 rfl zd_L_law_18.1.1.1.2 ?_
  refine rn_iconst (v := 1) zd_L_law_18.1.1.2.1 rfl ?_
  refine rn_iadd zd_L_law_18.1.1.2.2 ?_
  refine rn_sld h1 zd_L_law_18.1.2.1.1 ?_
  refine rn_callVi (As := [.int (zGx G (ztn (x3 + 1)))]) (rest := []) zl_L_66 zm_X12_join ⟨by decide, by decide⟩ (ci := 12) rfl rfl (by decide) k3 rfl rfl (Nat.le_of_ble_eq_true rfl) zd_L_law_18.1.2.1.2 (ok_X12_join hW k3 hb) ?_
  refine rn_pop (v := .int w) zd_L_law_18.1.2.2.1 rfl ?_
  exact rn_goto (tgt := 1138) zd_L_law_18.1.2.2.2 rfl k
theorem lw_12 {G : zG} {K : zK} {R : zR} {M : zM} {L : zL} {x3 v w : Int32} {r : Option Value} {S' : zS} {M1 : zM} {L1 : zL} {M2 : zM} (hW : zWT R K) (k2 : K[2]? = some (11, 11)) (k3 : K[242]? = some (12, 61)) (h1 : zin (x3 + 1) (zGn G) = true) (h2 : zin (x3 + 2) (zGn G) = true) (h3 : zin (x3 + 3) (zGn G) = true) (h4 : zin (x3 + 4) (zGn G) = true) (h5 : zin (x3 + 5) (zGn G) = true) (ha : n_X11_undo R M L 2 = some (v, M1, L1)) (hb : f_X12_undo R M1 242 = some (w, M2)) (k : Rn G mt_L 1138 [(0, .ref 1), (1, .ref 2), (2, .ref 242), (3, .int x3)] [] (M2, L1, R, K) r S') : Rn G mt_L 522 [(0, .ref 1), (1, .ref 2), (2, .ref 242), (3, .int x3)] [] (M, L, R, K) r S' := by
  refine rn_aload_n (q := 1) 1 rfl zd_L_law_18.2.1.1.1 ?_
  refine rn_callVi (As := []) (rest := []) zl_L_67 zm_X11_undo ⟨by decide, by decide⟩ (ci := 11) rfl rfl (by decide) k2 rfl rfl (Nat.le_of_ble_eq_true rfl) zd_L_law_18.2.1.1.2 (ok_X11_undo hW k2 ha) ?_
  refine rn_pop (v := .int v) zd_L_law_18.2.1.2.1 rfl ?_
  refine rn_aload_n (q := 2) 2 rfl zd_L_law_18.2.1.2.2 ?_
  refine rn_callVi (As := []) (rest := []) zl_L_71 zm_X12_undo ⟨by decide, by decide⟩ (ci := 12) rfl rfl (by decide) k3 rfl rfl (Nat.le_of_ble_eq_true rfl) zd_L_law_18.2.2.1.1 (ok_X12_undo hW k3 hb) ?_
  refine rn_pop (v := .int w) zd_L_law_18.2.2.1.2 rfl ?_
  exact rn_goto (tgt := 1138) zd_L_law_18.2.2.2.1 rfl k
theorem lw_13 {G : zG} {K : zK} {R : zR} {M : zM} {L : zL} {x3 v w : Int32} {r : Option Value} {S' : zS} {M1 : zM} {L1 : zL} {M2 : zM} (hW : zWT R K) (k2 : K[2]? = some (11, 11)) (k3 : K[242]? = some (12, 61)) (h1 : zin (x3 + 1) (zGn G) = true) (h2 : zin (x3 + 2) (zGn G) = true) (h3 : zin (x3 + 3) (zGn G) = true) (h4 : zin (x3 + 4) (zGn G) = true) (h5 : zin (x3 + 5) (zGn G) = true) (ha : n_X11_becomes R M L 2 (zGx G (ztn (x3 + 1))) = some (v, M1, L1)) (hb : f_X12_becomes R M1 242 (zGx G (ztn (x3 + 1))) = some (w, M2)) (k : Rn G mt_L 1138 [(0, .ref 1), (1, .ref 2), (2, .ref 242), (3, .int x3)] [] (M2, L1, R, K) r S') : Rn G mt_L 535 [(0, .ref 1), (1, .ref 2), (2, .ref 242), (3, .int x3)] [] (M, L, R, K) r S' := by
  refine rn_aload_n (q := 1) 1 rfl zd_L_law_18.2.2.2.2 ?_
  refine rn_aload_n (q := 0) 0 rfl zd_L_law_19.1.1.1.1 ?_
  refine rn_iload_n (q := 3) 3 rfl zd_L_law_19.1.1.1.2 ?_
  refine rn_iconst (v := 1) zd_L_law_19.1.1.2.1 rfl ?_
  refine rn_iadd zd_L_law_19.1.1.2.2 ?_
  refine rn_sld h1 zd_L_law_19.1.2.1.1 ?_
  refine rn_callVi (As := [.int (zGx G (ztn (x3 + 1)))]) (rest := []) zl_L_72 zm_X11_becomes ⟨by decide, by decide⟩ (ci := 11) rfl rfl (by decide) k2 rfl rfl (Nat.le_of_ble_eq_true rfl) zd_L_law_19.1.2.1.2 (ok_X11_becomes hW k2 ha) ?_
  refine rn_pop (v := .int v) zd_L_law_19.1.2.2.1 rfl ?_
  refine rn_aload_n (q := 2) 2 rfl zd_L_law_19.1.2.2.2 ?_
  refine rn_aload_n (q := 0) 0 rfl zd_L_law_19.2.1.1.1 ?_
  refine rn_iload_n (q := 3) 3 rfl zd_L_law_19.2.1.1.2 ?_
  refine rn_iconst (v := 1) zd_L_law_19.2.1.2.1 rfl ?_
  refine rn_iadd zd_L_law_19.2.1.2.2 ?_
  refine rn_sld h1 zd_L_law_19.2.2.1.1 ?_
  refine rn_callVi (As := [.int (zGx G (ztn (x3 + 1)))]) (rest := []) zl_L_75 zm_X12_becomes ⟨by decide, by decide⟩ (ci := 12) rfl rfl (by decide) k3 rfl rfl (Nat.le_of_ble_eq_true rfl) zd_L_law_19.2.2.1.2 (ok_X12_becomes hW k3 hb) ?_
  refine rn_pop (v := .int w) zd_L_law_19.2.2.2.1 rfl ?_
  exact rn_goto (tgt := 1138) zd_L_law_19.2.2.2.2 rfl k
theorem lw_14 {G : zG} {K : zK} {R : zR} {M : zM} {L : zL} {x3 v w : Int32} {r : Option Value} {S' : zS} {M1 : zM} {L1 : zL} {M2 : zM} (hW : zWT R K) (k2 : K[2]? = some (11, 11)) (k3 : K[242]? = some (12, 61)) (h1 : zin (x3 + 1) (zGn G) = true) (h2 : zin (x3 + 2) (zGn G) = true) (h3 : zin (x3 + 3) (zGn G) = true) (h4 : zin (x3 + 4) (zGn G) = true) (h5 : zin (x3 + 5) (zGn G) = true) (ha : n_X11_apart R M L 2 (zGx G (ztn (x3 + 1))) = some (v, M1, L1)) (hb : f_X12_apart R M1 242 (zGx G (ztn (x3 + 1))) = some (w, M2)) (k : Rn G mt_L 1138 [(0, .ref 1), (1, .ref 2), (2, .ref 242), (3, .int x3)] [] (M2, L1, R, K) r S') : Rn G mt_L 558 [(0, .ref 1), (1, .ref 2), (2, .ref 242), (3, .int x3)] [] (M, L, R, K) r S' := by
  refine rn_aload_n (q := 1) 1 rfl zd_L_law_20.1.1.1.1 ?_
  refine rn_aload_n (q := 0) 0 rfl zd_L_law_20.1.1.1.2 ?_
  refine rn_iload_n (q := 3) 3 rfl zd_L_law_20.1.1.2.1 ?_
  refine rn_iconst (v := 1) zd_L_law_20.1.1.2.2 rfl ?_
  refine rn_iadd zd_L_law_20.1.2.1.1 ?_
  refine rn_sld h1 zd_L_law_20.1.2.1.2 ?_
  refine rn_callVi (As := [.int (zGx G (ztn (x3 + 1)))]) (rest := []) zl_L_76 zm_X11_apart ⟨by decide, by decide⟩ (ci := 11) rfl rfl (by decide) k2 rfl rfl (Nat.le_of_ble_eq_true rfl) zd_L_law_20.1.2.2.1 (ok_X11_apart hW k2 ha) ?_
  refine rn_pop (v := .int v) zd_L_law_20.1.2.2.2 rfl ?_
  refine rn_aload_n (q := 2) 2 rfl zd_L_law_20.2.1.1.1 ?_
  refine rn_aload_n (q := 0) 0 rfl zd_L_law_20.2.1.1.2 ?_
  refine rn_iload_n (q := 3) 3 rfl zd_L_law_20.2.1.2.1 ?_
  refine rn_iconst (v := 1) zd_L_law_20.2.1.2.2 rfl ?_
  refine rn_iadd zd_L_law_20.2.2.1.1 ?_
  refine rn_sld h1 zd_L_law_20.2.2.1.2 ?_
  refine rn_callVi (As := [.int (zGx G (ztn (x3 + 1)))]) (rest := []) zl_L_79 zm_X12_apart ⟨by decide, by decide⟩ (ci := 12) rfl rfl (by decide) k3 rfl rfl (Nat.le_of_ble_eq_true rfl) zd_L_law_20.2.2.2.1 (ok_X12_apart hW k3 hb) ?_
  refine rn_pop (v := .int w) zd_L_law_20.2.2.2.2 rfl ?_
  exact rn_goto (tgt := 1138) zd_L_law_21.1.1.1.1 rfl k
theorem lw_15 {G : zG} {K : zK} {R : zR} {M : zM} {L : zL} {x3 v w : Int32} {r : Option Value} {S' : zS} {M1 : zM} {L1 : zL} {M2 : zM} (hW : zWT R K) (k2 : K[2]? = some (11, 11)) (k3 : K[242]? = some (12, 61)) (h1 : zin (x3 + 1) (zGn G) = true) (h2 : zin (x3 + 2) (zGn G) = true) (h3 : zin (x3 + 3) (zGn G) = true) (h4 : zin (x3 + 4) (zGn G) = true) (h5 : zin (x3 + 5) (zGn G) = true) (ha : n_X11_even R M L 2 (zGx G (ztn (x3 + 1))) (zGx G (ztn (x3 + 2))) = some (v, M1, L1)) (hb : f_X12_even R M1 242 (zGx G (ztn (x3 + 1))) (zGx G (ztn (x3 + 2))) = some (w, M2)) (k : Rn G mt_L 1138 [(0, .ref 1), (1, .ref 2), (2, .ref 242), (3, .int x3)] [] (M2, L1, R, K) r S') : Rn G mt_L 581 [(0, .ref 1), (1, .ref 2), (2, .ref 242), (3, .int x3)] [] (M, L, R, K) r S' := by
  refine rn_aload_n (q := 1) 1 rfl zd_L_law_21.1.1.1.2 ?_
  refine rn_aload_n (q := 0) 0 rfl zd_L_law_21.1.1.2.1 ?_
  refine rn_iload_n (q := 3) 3 rfl zd_L_law_21.1.1.2.2 ?_
  refine rn_iconst (v := 1) zd_L_law_21.1.2.1.1 rfl ?_
  refine rn_iadd zd_L_law_21.1.2.1.2 ?_
  refine rn_sld h1 zd_L_law_21.1.2.2.1 ?_
  refine rn_aload_n (q := 0) 0 rfl zd_L_law_21.1.2.2.2 ?_
  refine rn_iload_n (q := 3) 3 rfl zd_L_law_21.2.1.1.1 ?_
  refine rn_iconst (v := 2) zd_L_law_21.2.1.1.2 rfl ?_
  refine rn_iadd zd_L_law_21.2.1.2.1 ?_
  refine rn_sld h2 zd_L_law_21.2.1.2.2 ?_
  refine rn_callVi (As := [.int (zGx G (ztn (x3 + 1))), .int (zGx G (ztn (x3 + 2)))]) (rest := []) zl_L_80 zm_X11_even ⟨by decide, by decide⟩ (ci := 11) rfl rfl (by decide) k2 rfl rfl (Nat.le_of_ble_eq_true rfl) zd_L_law_21.2.2.1.1 (ok_X11_even hW k2 ha) ?_
  refine rn_pop (v := .int v) zd_L_law_21.2.2.1.2 rfl ?_
  refine rn_aload_n (q := 2) 2 rfl zd_L_law_21.2.2.2.1 ?_
  refine rn_aload_n (q := 0) 0 rfl zd_L_law_21.2.2.2.2 ?_
  refine rn_iload_n (q := 3) 3 rfl zd_L_law_22.1.1.1.1 ?_
  refine rn_iconst (v := 1) zd_L_law_22.1.1.1.2 rfl ?_
  refine rn_iadd zd_L_law_22.1.1.2.1 ?_
  refine rn_sld h1 zd_L_law_22.1.1.2.2 ?_
  refine rn_aload_n (q := 0) 0 rfl zd_L_law_22.1.2.1.1 ?_
  refine rn_iload_n (q := 3) 3 rfl zd_L_law_22.1.2.1.2 ?_
  refine rn_iconst (v := 2) zd_L_law_22.1.2.2.1 rfl ?_
  refine rn_iadd zd_L_law_22.1.2.2.2 ?_
  refine rn_sld h2 zd_L_law_22.2.1.1.1 ?_
  refine rn_callVi (As := [.int (zGx G (ztn (x3 + 1))), .int (zGx G (ztn (x3 + 2)))]) (rest := []) zl_L_83 zm_X12_even ⟨by decide, by decide⟩ (ci := 12) rfl rfl (by decide) k3 rfl rfl (Nat.le_of_ble_eq_true rfl) zd_L_law_22.2.1.1.2 (ok_X12_even hW k3 hb) ?_
  refine rn_pop (v := .int w) zd_L_law_22.2.1.2.1 rfl ?_
  exact rn_goto (tgt := 1138) zd_L_law_22.2.1.2.2 rfl k
theorem lw_16 {G : zG} {K : zK} {R : zR} {M : zM} {L : zL} {x3 v w : Int32} {r : Option Value} {S' : zS} {M1 : zM} {L1 : zL} {M2 : zM} (hW : zWT R K) (k2 : K[2]? = some (11, 11)) (k3 : K[242]? = some (12, 61)) (h1 : zin (x3 + 1) (zGn G) = true) (h2 : zin (x3 + 2) (zGn G) = true) (h3 : zin (x3 + 3) (zGn G) = true) (h4 : zin (x3 + 4) (zGn G) = true) (h5 : zin (x3 + 5) (zGn G) = true) (ha : n_X11_soonest R M L 2 (zGx G (ztn (x3 + 1))) = some (v, M1, L1)) (hb : f_X12_soonest R M1 242 (zGx G (ztn (x3 + 1))) = some (w, M2)) (k : Rn G mt_L 1138 [(0, .ref 1), (1, .ref 2), (2, .ref 242), (3, .int x3)] [] (M2, L1, R, K) r S') : Rn G mt_L 614 [(0, .ref 1), (1, .ref 2), (2, .ref 242), (3, .int x3)] [] (M, L, R, K) r S' := by
  refine rn_aload_n (q := 1) 1 rfl zd_L_law_22.2.2.1.1 ?_
  refine rn_aload_n (q := 0) 0 rfl zd_L_law_22.2.2.1.2 ?_
  refine rn_iload_n (q := 3) 3 rfl zd_L_law_22.2.2.2.1 ?_
  refine rn_iconst (v := 1) zd_L_law_22.2.2.2.2 rfl ?_
  refine rn_iadd zd_L_law_23.1.1.1.1 ?_
  refine rn_sld h1 zd_L_law_23.1.1.1.2 ?_
  refine rn_callVi (As := [.int (zGx G (ztn (x3 + 1)))]) (rest := []) zl_L_84 zm_X11_soonest ⟨by decide, by decide⟩ (ci := 11) rfl rfl (by decide) k2 rfl rfl (Nat.le_of_ble_eq_true rfl) zd_L_law_23.1.1.2.1 (ok_X11_soonest hW k2 ha) ?_
  refine rn_pop (v := .int v) zd_L_law_23.1.1.2.2 rfl ?_
  refine rn_aload_n (q := 2) 2 rfl zd_L_law_23.1.2.1.1 ?_
  refine rn_aload_n (q := 0) 0 rfl zd_L_law_23.1.2.1.2 ?_
  refine rn_iload_n (q := 3) 3 rfl zd_L_law_23.1.2.2.1 ?_
  refine rn_iconst (v := 1) zd_L_law_23.1.2.2.2 rfl ?_
  refine rn_iadd zd_L_law_23.2.1.1.1 ?_
  refine rn_sld h1 zd_L_law_23.2.1.1.2 ?_
  refine rn_callVi (As := [.int (zGx G (ztn (x3 + 1)))]) (rest := []) zl_L_87 zm_X12_soonest ⟨by decide, by decide⟩ (ci := 12) rfl rfl (by decide) k3 rfl rfl (Nat.le_of_ble_eq_true rfl) zd_L_law_23.2.1.2.1 (ok_X12_soonest hW k3 hb) ?_
  refine rn_pop (v := .int w) zd_L_law_23.2.1.2.2 rfl ?_
  exact rn_goto (tgt := 1138) zd_L_law_23.2.2.1.1 rfl k
theorem lw_17 {G : zG} {K : zK} {R : zR} {M : zM} {L : zL} {x3 v w : Int32} {r : Option Value} {S' : zS} {M1 : zM} {L1 : zL} {M2 : zM} (hW : zWT R K) (k2 : K[2]? = some (11, 11)) (k3 : K[242]? = some (12, 61)) (h1 : zin (x3 + 1) (zGn G) = true) (h2 : zin (x3 + 2) (zGn G) = true) (h3 : zin (x3 + 3) (zGn G) = true) (h4 : zin (x3 + 4) (zGn G) = true) (h5 : zin (x3 + 5) (zGn G) = true) (ha : n_X11_start R M L 2 (zGx G (ztn (x3 + 1))) (zGx G (ztn (x3 + 2))) = some (v, M1, L1)) (hb : f_X12_start R M1 242 (zGx G (ztn (x3 + 1))) (zGx G (ztn (x3 + 2))) = some (w, M2)) (k : Rn G mt_L 1138 [(0, .ref 1), (1, .ref 2), (2, .ref 242), (3, .int x3)] [] (M2, L1, R, K) r S') : Rn G mt_L 637 [(0, .ref 1), (1, .ref 2), (2, .ref 242), (3, .int x3)] [] (M, L, R, K) r S' := by
  refine rn_aload_n (q := 1) 1 rfl zd_L_law_23.2.2.1.2 ?_
  refine rn_aload_n (q := 0) 0 rfl zd_L_law_23.2.2.2.1 ?_
  refine rn_iload_n (q := 3) 3 rfl zd_L_law_23.2.2.2.2 ?_
  refine rn_iconst (v := 1) zd_L_law_24.1.1.1.1 rfl ?_
  refine rn_iadd zd_L_law_24.1.1.1.2 ?_
  refine rn_sld h1 zd_L_law_24.1.1.2.1 ?_
  refine rn_aload_n (q := 0) 0 rfl zd_L_law_24.1.1.2.2 ?_
  refine rn_iload_n (q := 3) 3 rfl zd_L_law_24.1.2.1.1 ?_
  refine rn_iconst (v := 2) zd_L_law_24.1.2.1.2 rfl ?_
  refine rn_iadd zd_L_law_24.1.2.2.1 ?_
  refine rn_sld h2 zd_L_law_24.1.2.2.2 ?_
  refine rn_callVi (As := [.int (zGx G (ztn (x3 + 1))), .int (zGx G (ztn (x3 + 2)))]) (rest := []) zl_L_88 zm_X11_start ⟨by decide, by decide⟩ (ci := 11) rfl rfl (by decide) k2 rfl rfl (Nat.le_of_ble_eq_true rfl) zd_L_law_24.2.1.1.1 (ok_X11_start hW k2 ha) ?_
  refine rn_pop (v := .int v) zd_L_law_24.2.1.1.2 rfl ?_
  refine rn_aload_n (q := 2) 2 rfl zd_L_law_24.2.1.2.1 ?_
  refine rn_aload_n (q := 0) 0 rfl zd_L_law_24.2.1.2.2 ?_
  refine rn_iload_n (q := 3) 3 rfl zd_L_law_24.2.2.1.1 ?_
  refine rn_iconst (v := 1) zd_L_law_24.2.2.1.2 rfl ?_
  refine rn_iadd zd_L_law_24.2.2.2.1 ?_
  refine rn_sld h1 zd_L_law_24.2.2.2.2 ?_
  refine rn_aload_n (q := 0) 0 rfl zd_L_law_25.1.1.1.1 ?_
  refine rn_iload_n (q := 3) 3 rfl zd_L_law_25.1.1.1.2 ?_
  refine rn_iconst (v := 2) zd_L_law_25.1.1.2.1 rfl ?_
  refine rn_iadd zd_L_law_25.1.1.2.2 ?_
  refine rn_sld h2 zd_L_law_25.1.2.1.1 ?_
  refine rn_callVi (As := [.int (zGx G (ztn (x3 + 1))), .int (zGx G (ztn (x3 + 2)))]) (rest := []) zl_L_91 zm_X12_start ⟨by decide, by decide⟩ (ci := 12) rfl rfl (by decide) k3 rfl rfl (Nat.le_of_ble_eq_true rfl) zd_L_law_25.1.2.1.2 (ok_X12_start hW k3 hb) ?_
  refine rn_pop (v := .int w) zd_L_law_25.1.2.2.1 rfl ?_
  exact rn_goto (tgt := 1138) zd_L_law_25.1.2.2.2 rfl k
theorem lw_18 {G : zG} {K : zK} {R : zR} {M : zM} {L : zL} {x3 v w : Int32} {r : Option Value} {S' : zS} {M1 : zM} {L1 : zL} {M2 : zM} (hW : zWT R K) (k2 : K[2]? = some (11, 11)) (k3 : K[242]? = some (12, 61)) (h1 : zin (x3 + 1) (zGn G) = true) (h2 : zin (x3 + 2) (zGn G) = true) (h3 : zin (x3 + 3) (zGn G) = true) (h4 : zin (x3 + 4) (zGn G) = true) (h5 : zin (x3 + 5) (zGn G) = true) (ha : n_X11_wealth R M L 2 (zGx G (ztn (x3 + 1))) (zGx G (ztn (x3 + 2))) (zGx G (ztn (x3 + 3))) = some (v, M1, L1)) (hb : f_X12_wealth R M1 242 (zGx G (ztn (x3 + 1))) (zGx G (ztn (x3 + 2))) (zGx G (ztn (x3 + 3))) = some (w, M2)) (k : Rn G mt_L 1138 [(0, .ref 1), (1, .ref 2), (2, .ref 242), (3, .int x3)] [] (M2, L1, R, K) r S') : Rn G mt_L 670 [(0, .ref 1), (1, .ref 2), (2, .ref 242), (3, .int x3)] [] (M, L, R, K) r S' := by
  refine rn_aload_n (q := 1) 1 rfl zd_L_law_25.2.1.1.1 ?_
  refine rn_aload_n (q := 0) 0 rfl zd_L_law_25.2.1.1.2 ?_
  refine rn_iload_n (q := 3) 3 rfl zd_L_law_25.2.1.2.1 ?_
  refine rn_iconst (v := 1) zd_L_law_25.2.1.2.2 rfl ?_
  refine rn_iadd zd_L_law_25.2.2.1.1 ?_
  refine rn_sld h1 zd_L_law_25.2.2.1.2 ?_
  refine rn_aload_n (q := 0) 0 rfl zd_L_law_25.2.2.2.1 ?_
  refine rn_iload_n (q := 3) 3 rfl zd_L_law_25.2.2.2.2 ?_
  refine rn_iconst (v := 2) zd_L_law_26.1.1.1.1 rfl ?_
  refine rn_iadd zd_L_law_26.1.1.1.2 ?_
  refine rn_sld h2 zd_L_law_26.1.1.2.1 ?_
  refine rn_aload_n (q := 0) 0 rfl zd_L_law_26.1.1.2.2 ?_
  refine rn_iload_n (q := 3) 3 rfl zd_L_law_26.1.2.1.1 ?_
  refine rn_iconst (v := 3) zd_L_law_26.1.2.1.2 rfl ?_
  refine rn_iadd zd_L_law_26.1.2.2.1 ?_
  refine rn_sld h3 zd_L_law_26.1.2.2.2 ?_
  refine rn_callVi (As := [.int (zGx G (ztn (x3 + 1))), .int (zGx G (ztn (x3 + 2))), .int (zGx G (ztn (x3 + 3)))]) (rest := []) zl_L_92 zm_X11_wealth ⟨by decide, by decide⟩ (ci := 11) rfl rfl (by decide) k2 rfl rfl (Nat.le_of_ble_eq_true rfl) zd_L_law_26.2.1.1.1 (ok_X11_wealth hW k2 ha) ?_
  refine rn_pop (v := .int v) zd_L_law_26.2.1.1.2 rfl ?_
  refine rn_aload_n (q := 2) 2 rfl zd_L_law_26.2.1.2.1 ?_
  refine rn_aload_n (q := 0) 0 rfl zd_L_law_26.2.1.2.2 ?_
  refine rn_iload_n (q := 3) 3 rfl zd_L_law_26.2.2.1.1 ?_
  refine rn_iconst (v := 1) zd_L_law_26.2.2.1.2 rfl ?_
  refine rn_iadd zd_L_law_26.2.2.2.1 ?_
  refine rn_sld h1 zd_L_law_26.2.2.2.2 ?_
  refine rn_aload_n (q := 0) 0 rfl zd_L_law_27.1.1.1.1 ?_
  refine rn_iload_n (q := 3) 3 rfl zd_L_law_27.1.1.1.2 ?_
  refine rn_iconst (v := 2) zd_L_law_27.1.1.2.1 rfl ?_
  refine rn_iadd zd_L_law_27.1.1.2.2 ?_
  refine rn_sld h2 zd_L_law_27.1.2.1.1 ?_
  refine rn_aload_n (q := 0) 0 rfl zd_L_law_27.1.2.1.2 ?_
  refine rn_iload_n (q := 3) 3 rfl zd_L_law_27.1.2.2.1 ?_
  refine rn_iconst (v := 3) zd_L_law_27.1.2.2.2 rfl ?_
  refine rn_iadd zd_L_law_27.2.1.1.1 ?_
  refine rn_sld h3 zd_L_law_27.2.1.1.2 ?_
  refine rn_callVi (As := [.int (zGx G (ztn (x3 + 1))), .int (zGx G (ztn (x3 + 2))), .int (zGx G (ztn (x3 + 3)))]) (rest := []) zl_L_96 zm_X12_wealth ⟨by decide, by decide⟩ (ci := 12) rfl rfl (by decide) k3 rfl rfl (Nat.le_of_ble_eq_true rfl) zd_L_law_27.2.1.2.1 (ok_X12_wealth hW k3 hb) ?_
  refine rn_pop (v := .int w) zd_L_law_27.2.1.2.2 rfl ?_
  exact rn_goto (tgt := 1138) zd_L_law_27.2.2.1.1 rfl k
theorem lw_19 {G : zG} {K : zK} {R : zR} {M : zM} {L : zL} {x3 v w : Int32} {r : Option Value} {S' : zS} {M1 : zM} {L1 : zL} {M2 : zM} (hW : zWT R K) (k2 : K[2]? = some (11, 11)) (k3 : K[242]? = some (12, 61)) (h1 : zin (x3 + 1) (zGn G) = true) (h2 : zin (x3 + 2) (zGn G) = true) (h3 : zin (x3 + 3) (zGn G) = true) (h4 : zin (x3 + 4) (zGn G) = true) (h5 : zin (x3 + 5) (zGn G) = true) (ha : n_X11_free R M L 2 (zGx G (ztn (x3 + 1))) (zGx G (ztn (x3 + 2))) = some (v, M1, L1)) (hb : f_X12_free R M1 242 (zGx G (ztn (x3 + 1))) (zGx G (ztn (x3 + 2))) = some (w, M2)) (k : Rn G mt_L 1138 [(0, .ref 1), (1, .ref 2), (2, .ref 242), (3, .int x3)] [] (M2, L1, R, K) r S') : Rn G mt_L 713 [(0, .ref 1), (1, .ref 2), (2, .ref 242), (3, .int x3)] [] (M, L, R, K) r S' := by
  refine rn_aload_n (q := 1) 1 rfl zd_L_law_27.2.2.1.2 ?_
  refine rn_aload_n (q := 0) 0 rfl zd_L_law_27.2.2.2.1 ?_
  refine rn_iload_n (q := 3) 3 rfl zd_L_law_27.2.2.2.2 ?_
  refine rn_iconst (v := 1) zd_L_law_28.1.1.1.1 rfl ?_
  refine rn_iadd zd_L_law_28.1.1.1.2 ?_
  refine rn_sld h1 zd_L_law_28.1.1.2.1 ?_
  refine rn_aload_n (q := 0) 0 rfl zd_L_law_28.1.1.2.2 ?_
  refine rn_iload_n (q := 3) 3 rfl zd_L_law_28.1.2.1.1 ?_
  refine rn_iconst (v := 2) zd_L_law_28.1.2.1.2 rfl ?_
  refine rn_iadd zd_L_law_28.1.2.2.1 ?_
  refine rn_sld h2 zd_L_law_28.1.2.2.2 ?_
  refine rn_callVi (As := [.int (zGx G (ztn (x3 + 1))), .int (zGx G (ztn (x3 + 2)))]) (rest := []) zl_L_97 zm_X11_free ⟨by decide, by decide⟩ (ci := 11) rfl rfl (by decide) k2 rfl rfl (Nat.le_of_ble_eq_true rfl) zd_L_law_28.2.1.1.1 (ok_X11_free hW k2 ha) ?_
  refine rn_pop (v := .int v) zd_L_law_28.2.1.1.2 rfl ?_
  refine rn_aload_n (q := 2) 2 rfl zd_L_law_28.2.1.2.1 ?_
  refine rn_aload_n (q := 0) 0 rfl zd_L_law_28.2.1.2.2 ?_
  refine rn_iload_n (q := 3) 3 rfl zd_L_law_28.2.2.1.1 ?_
  refine rn_iconst (v := 1) zd_L_law_28.2.2.1.2 rfl ?_
  refine rn_iadd zd_L_law_28.2.2.2.1 ?_
  refine rn_sld h1 zd_L_law_28.2.2.2.2 ?_
  refine rn_aload_n (q := 0) 0 rfl zd_L_law_29.1.1.1.1 ?_
  refine rn_iload_n (q := 3) 3 rfl zd_L_law_29.1.1.1.2 ?_
  refine rn_iconst (v := 2) zd_L_law_29.1.1.2.1 rfl ?_
  refine rn_iadd zd_L_law_29.1.1.2.2 ?_
  refine rn_sld h2 zd_L_law_29.1.2.1.1 ?_
  refine rn_callVi (As := [.int (zGx G (ztn (x3 + 1))), .int (zGx G (ztn (x3 + 2)))]) (rest := []) zl_L_100 zm_X12_free ⟨by decide, by decide⟩ (ci := 12) rfl rfl (by decide) k3 rfl rfl (Nat.le_of_ble_eq_true rfl) zd_L_law_29.1.2.1.2 (ok_X12_free hW k3 hb) ?_
  refine rn_pop (v := .int w) zd_L_law_29.1.2.2.1 rfl ?_
  exact rn_goto (tgt := 1138) zd_L_law_29.1.2.2.2 rfl k
theorem lw_20 {G : zG} {K : zK} {R : zR} {M : zM} {L : zL} {x3 v w : Int32} {r : Option Value} {S' : zS} {M1 : zM} {L1 : zL} {M2 : zM} (hW : zWT R K) (k2 : K[2]? = some (11, 11)) (k3 : K[242]? = some (12, 61)) (h1 : zin (x3 + 1) (zGn G) = true) (h2 : zin (x3 + 2) (zGn G) = true) (h3 : zin (x3 + 3) (zGn G) = true) (h4 : zin (x3 + 4) (zGn G) = true) (h5 : zin (x3 + 5) (zGn G) = true) (ha : n_X11_best R M L 2 (zGx G (ztn (x3 + 1))) (zGx G (ztn (x3 + 2))) (zGx G (ztn (x3 + 3))) (zGx G (ztn (x3 + 4))) = some (v, M1, L1)) (hb : f_X12_best R M1 242 (zGx G (ztn (x3 + 1))) (zGx G (ztn (x3 + 2))) (zGx G (ztn (x3 + 3))) (zGx G (ztn (x3 + 4))) = some (w, M2)) (k : Rn G mt_L 1138 [(0, .ref 1), (1, .ref 2), (2, .ref 242), (3, .int x3)] [] (M2, L1, R, K) r S') : Rn G mt_L 746 [(0, .ref 1), (1, .ref 2), (2, .ref 242), (3, .int x3)] [] (M, L, R, K) r S' := by
  refine rn_aload_n (q := 1) 1 rfl zd_L_law_29.2.1.1.1 ?_
  refine rn_aload_n (q := 0) 0 rfl zd_L_law_29.2.1.1.2 ?_
  refine rn_iload_n (q := 3) 3 rfl zd_L_law_29.2.1.2.1 ?_
  refine rn_iconst (v := 1) zd_L_law_29.2.1.2.2 rfl ?_
  refine rn_iadd zd_L_law_29.2.2.1.1 ?_
  refine rn_sld h1 zd_L_law_29.2.2.1.2 ?_
  refine rn_aload_n (q := 0) 0 rfl zd_L_law_29.2.2.2.1 ?_
  refine rn_iload_n (q := 3) 3 rfl zd_L_law_29.2.2.2.2 ?_
  refine rn_iconst (v := 2) zd_L_law_30.1.1.1.1 rfl ?_
  refine rn_iadd zd_L_law_30.1.1.1.2 ?_
  refine rn_sld h2 zd_L_law_30.1.1.2.1 ?_
  refine rn_aload_n (q := 0) 0 rfl zd_L_law_30.1.1.2.2 ?_
  refine rn_iload_n (q := 3) 3 rfl zd_L_law_30.1.2.1.1 ?_
  refine rn_iconst (v := 3) zd_L_law_30.1.2.1.2 rfl ?_
  refine rn_iadd zd_L_law_30.1.2.2.1 ?_
  refine rn_sld h3 zd_L_law_30.1.2.2.2 ?_
  refine rn_aload_n (q := 0) 0 rfl zd_L_law_30.2.1.1.1 ?_
  refine rn_iload_n (q := 3) 3 rfl zd_L_law_30.2.1.1.2 ?_
  refine rn_iconst (v := 4) zd_L_law_30.2.1.2.1 rfl ?_
  refine rn_iadd zd_L_law_30.2.1.2.2 ?_
  refine rn_sld h4 zd_L_law_30.2.2.1.1 ?_
  refine rn_callVi (As := [.int (zGx G (ztn (x3 + 1))), .int (zGx G (ztn (x3 + 2))), .int (zGx G (ztn (x3 + 3))), .int (zGx G (ztn (x3 + 4)))]) (rest := []) zl_L_101 zm_X11_best ⟨by decide, by decide⟩ (ci := 11) rfl rfl (by decide) k2 rfl rfl (Nat.le_of_ble_eq_true rfl) zd_L_law_30.2.2.1.2 (ok_X11_best hW k2 ha) ?_
  refine rn_pop (v := .int v) zd_L_law_30.2.2.2.1 rfl ?_
  refine rn_aload_n (q := 2) 2 rfl zd_L_law_30.2.2.2.2 ?_
  refine rn_aload_n (q := 0) 0 rfl zd_L_law_31.1.1.1.1 ?_
  refine rn_iload_n (q := 3) 3 rfl zd_L_law_31.1.1.1.2 ?_
  refine rn_iconst (v := 1) zd_L_law_31.1.1.2.1 rfl ?_
  refine rn_iadd zd_L_law_31.1.1.2.2 ?_
  refine rn_sld h1 zd_L_law_31.1.2.1.1 ?_
  refine rn_aload_n (q := 0) 0 rfl zd_L_law_31.1.2.1.2 ?_
  refine rn_iload_n (q := 3) 3 rfl zd_L_law_31.1.2.2.1 ?_
  refine rn_iconst (v := 2) zd_L_law_31.1.2.2.2 rfl ?_
  refine rn_iadd zd_L_law_31.2.1.1.1 ?_
  refine rn_sld h2 zd_L_law_31.2.1.1.2 ?_
  refine rn_aload_n (q := 0) 0 rfl zd_L_law_31.2.1.2.1 ?_
  refine rn_iload_n (q := 3) 3 rfl zd_L_law_31.2.1.2.2 ?_
  refine rn_iconst (v := 3) zd_L_law_31.2.2.1.1 rfl ?_
  refine rn_iadd zd_L_law_31.2.2.1.2 ?_
  refine rn_sld h3 zd_L_law_31.2.2.2.1 ?_
  refine rn_aload_n (q := 0) 0 rfl zd_L_law_31.2.2.2.2 ?_
  refine rn_iload_n (q := 3) 3 rfl zd_L_law_32.1.1.1.1 ?_
  refine rn_iconst (v := 4) zd_L_law_32.1.1.1.2 rfl ?_
  refine rn_iadd zd_L_law_32.1.1.2.1 ?_
  refine rn_sld h4 zd_L_law_32.1.1.2.2 ?_
  refine rn_callVi (As := [.int (zGx G (ztn (x3 + 1))), .int (zGx G (ztn (x3 + 2))), .int (zGx G (ztn (x3 + 3))), .int (zGx G (ztn (x3 + 4)))]) (rest := []) zl_L_105 zm_X12_best ⟨by decide, by decide⟩ (ci := 12) rfl rfl (by decide) k3 rfl rfl (Nat.le_of_ble_eq_true rfl) zd_L_law_32.1.2.1.1 (ok_X12_best hW k3 hb) ?_
  refine rn_pop (v := .int w) zd_L_law_32.1.2.1.2 rfl ?_
  exact rn_goto (tgt := 1138) zd_L_law_32.1.2.2.1 rfl k
theorem lw_21 {G : zG} {K : zK} {R : zR} {M : zM} {L : zL} {x3 v w : Int32} {r : Option Value} {S' : zS} {M1 : zM} {L1 : zL} {M2 : zM} (hW : zWT R K) (k2 : K[2]? = some (11, 11)) (k3 : K[242]? = some (12, 61)) (h1 : zin (x3 + 1) (zGn G) = true) (h2 : zin (x3 + 2) (zGn G) = true) (h3 : zin (x3 + 3) (zGn G) = true) (h4 : zin (x3 + 4) (zGn G) = true) (h5 : zin (x3 + 5) (zGn G) = true) (ha : n_X11_loan R M L 2 (zGx G (ztn (x3 + 1))) (zGx G (ztn (x3 + 2))) (zGx G (ztn (x3 + 3))) (if zGx G (ztn (x3 + 4)) = 0 then 0 else 1) = some (v, M1, L1)) (hb : f_X12_loan R M1 242 (zGx G (ztn (x3 + 1))) (zGx G (ztn (x3 + 2))) (zGx G (ztn (x3 + 3))) (if zGx G (ztn (x3 + 4)) = 0 then 0 else 1) = some (w, M2)) (k : Rn G mt_L 1138 [(0, .ref 1), (1, .ref 2), (2, .ref 242), (3, .int x3)] [] (M2, L1, R, K) r S') : Rn G mt_L 799 [(0, .ref 1), (1, .ref 2), (2, .ref 242), (3, .int x3)] [] (M, L, R, K) r S' := by
  by_cases hc : zGx G (ztn (x3 + 4)) = 0
  · rw [if_pos hc] at ha hb
    refine rn_aload_n (q := 1) 1 rfl zd_L_law_32.1.2.2.2 ?_
    refine rn_aload_n (q := 0) 0 rfl zd_L_law_32.2.1.1.1 ?_
    refine rn_iload_n (q := 3) 3 rfl zd_L_law_32.2.1.1.2 ?_
    refine rn_iconst (v := 1) zd_L_law_32.2.1.2.1 rfl ?_
    refine rn_iadd zd_L_law_32.2.1.2.2 ?_
    refine rn_sld h1 zd_L_law_32.2.2.1.1 ?_
    refine rn_aload_n (q := 0) 0 rfl zd_L_law_32.2.2.1.2 ?_
    refine rn_iload_n (q := 3) 3 rfl zd_L_law_32.2.2.2.1 ?_
    refine rn_iconst (v := 2) zd_L_law_32.2.2.2.2 rfl ?_
    refine rn_iadd zd_L_law_33.1.1.1.1 ?_
    refine rn_sld h2 zd_L_law_33.1.1.1.2 ?_
    refine rn_aload_n (q := 0) 0 rfl zd_L_law_33.1.1.2.1 ?_
    refine rn_iload_n (q := 3) 3 rfl zd_L_law_33.1.1.2.2 ?_
    refine rn_iconst (v := 3) zd_L_law_33.1.2.1.1 rfl ?_
    refine rn_iadd zd_L_law_33.1.2.1.2 ?_
    refine rn_sld h3 zd_L_law_33.1.2.2.1 ?_
    refine rn_aload_n (q := 0) 0 rfl zd_L_law_33.1.2.2.2 ?_
    refine rn_iload_n (q := 3) 3 rfl zd_L_law_33.2.1.1.1 ?_
    refine rn_iconst (v := 4) zd_L_law_33.2.1.1.2 rfl ?_
    refine rn_iadd zd_L_law_33.2.1.2.1 ?_
    refine rn_sld h4 zd_L_law_33.2.1.2.2 ?_
    refine rn_if_eq_t (tgt := 827) hc zd_L_law_33.2.2.1.1 rfl ?_
    refine rn_iconst (v := 0) zd_L_law_33.2.2.2.2 rfl ?_
    refine rn_callVi (As := [.int (zGx G (ztn (x3 + 1))), .int (zGx G (ztn (x3 + 2))), .int (zGx G (ztn (x3 + 3))), .int 0]) (rest := []) zl_L_106 zm_X11_loan ⟨by decide, by decide⟩ (ci := 11) rfl rfl (by decide) k2 rfl rfl (Nat.le_of_ble_eq_true rfl) zd_L_law_34.1.1.1.1 (ok_X11_loan hW k2 ha) ?_
    refine rn_pop (v := .int v) zd_L_law_34.1.1.1.2 rfl ?_
    refine rn_aload_n (q := 2) 2 rfl zd_L_law_34.1.1.2.1 ?_
    refine rn_aload_n (q := 0) 0 rfl zd_L_law_34.1.1.2.2 ?_
    refine rn_iload_n (q := 3) 3 rfl zd_L_law_34.1.2.1.1 ?_
    refine rn_iconst (v := 1) zd_L_law_34.1.2.1.2 rfl ?_
    refine rn_iadd zd_L_law_34.1.2.2.1 ?_
    refine rn_sld h1 zd_L_law_34.1.2.2.2 ?_
    refine rn_aload_n (q := 0) 0 rfl zd_L_law_34.2.1.1.1 ?_
    refine rn_iload_n (q := 3) 3 rfl zd_L_law_34.2.1.1.2 ?_
    refine rn_iconst (v := 2) zd_L_law_34.2.1.2.1 rfl ?_
    refine rn_iadd zd_L_law_34.2.1.2.2 ?_
    refine rn_sld h2 zd_L_law_34.2.2.1.1 ?_
    refine rn_aload_n (q := 0) 0 rfl zd_L_law_34.2.2.1.2 ?_
    refine rn_iload_n (q := 3) 3 rfl zd_L_law_34.2.2.2.1 ?_
    refine rn_iconst (v := 3) zd_L_law_34.2.2.2.2 rfl ?_
    refine rn_iadd zd_L_law_35.1.1.1.1 ?_
    refine rn_sld h3 zd_L_law_35.1.1.1.2 ?_
    refine rn_aload_n (q := 0) 0 rfl zd_L_law_35.1.1.2.1 ?_
    refine rn_iload_n (q := 3) 3 rfl zd_L_law_35.1.1.2.2 ?_
    refine rn_iconst (v := 4) zd_L_law_35.1.2.1.1 rfl ?_
    refine rn_iadd zd_L_law_35.1.2.1.2 ?_
    refine rn_sld h4 zd_L_law_35.1.2.2.1 ?_
    refine rn_if_eq_t (tgt := 860) hc zd_L_law_35.1.2.2.2 rfl ?_
    refine rn_iconst (v := 0) zd_L_law_35.2.1.2.1 rfl ?_
    refine rn_callVi (As := [.int (zGx G (ztn (x3 + 1))), .int (zGx G (ztn (x3 + 2))), .int (zGx G (ztn (x3 + 3))), .int 0]) (rest := []) zl_L_110 zm_X12_loan ⟨by decide, by decide⟩ (ci := 12) rfl rfl (by decide) k3 rfl rfl (Nat.le_of_ble_eq_true rfl) zd_L_law_35.2.1.2.2 (ok_X12_loan hW k3 hb) ?_
    refine rn_pop (v := .int w) zd_L_law_35.2.2.1.1 rfl ?_
    exact rn_goto (tgt := 1138) zd_L_law_35.2.2.1.2 rfl k
  · rw [if_neg hc] at ha hb
    refine rn_aload_n (q := 1) 1 rfl zd_L_law_32.1.2.2.2 ?_
    refine rn_aload_n (q := 0) 0 rfl zd_L_law_32.2.1.1.1 ?_
    refine rn_iload_n (q := 3) 3 rfl zd_L_law_32.2.1.1.2 ?_
    refine rn_iconst (v := 1) zd_L_law_32.2.1.2.1 rfl ?_
    refine rn_iadd zd_L_law_32.2.1.2.2 ?_
    refine rn_sld h1 zd_L_law_32.2.2.1.1 ?_
    refine rn_aload_n (q := 0) 0 rfl zd_L_law_32.2.2.1.2 ?_
    refine rn_iload_n (q := 3) 3 rfl zd_L_law_32.2.2.2.1 ?_
    refine rn_iconst (v := 2) zd_L_law_32.2.2.2.2 rfl ?_
    refine rn_iadd zd_L_law_33.1.1.1.1 ?_
    refine rn_sld h2 zd_L_law_33.1.1.1.2 ?_
    refine rn_aload_n (q := 0) 0 rfl zd_L_law_33.1.1.2.1 ?_
    refine rn_iload_n (q := 3) 3 rfl zd_L_law_33.1.1.2.2 ?_
    refine rn_iconst (v := 3) zd_L_law_33.1.2.1.1 rfl ?_
    refine rn_iadd zd_L_law_33.1.2.1.2 ?_
    refine rn_sld h3 zd_L_law_33.1.2.2.1 ?_
    refine rn_aload_n (q := 0) 0 rfl zd_L_law_33.1.2.2.2 ?_
    refine rn_iload_n (q := 3) 3 rfl zd_L_law_33.2.1.1.1 ?_
    refine rn_iconst (v := 4) zd_L_law_33.2.1.1.2 rfl ?_
    refine rn_iadd zd_L_law_33.2.1.2.1 ?_
    refine rn_sld h4 zd_L_law_33.2.1.2.2 ?_
    refine rn_if_eq_f (tgt := 827) hc zd_L_law_33.2.2.1.1 rfl ?_
    refine rn_iconst (v := 1) zd_L_law_33.2.2.1.2 rfl ?_
    refine rn_goto (tgt := 828) zd_L_law_33.2.2.2.1 rfl ?_
    refine rn_callVi (As := [.int (zGx G (ztn (x3 + 1))), .int (zGx G (ztn (x3 + 2))), .int (zGx G (ztn (x3 + 3))), .int 1]) (rest := []) zl_L_106 zm_X11_loan ⟨by decide, by decide⟩ (ci := 11) rfl rfl (by decide) k2 rfl rfl (Nat.le_of_ble_eq_true rfl) zd_L_law_34.1.1.1.1 (ok_X11_loan hW k2 ha) ?_
    refine rn_pop (v := .int v) zd_L_law_34.1.1.1.2 rfl ?_
    refine rn_aload_n (q := 2) 2 rfl zd_L_law_34.1.1.2.1 ?_
    refine rn_aload_n (q := 0) 0 rfl zd_L_law_34.1.1.2.2 ?_
    refine rn_iload_n (q := 3) 3 rfl zd_L_law_34.1.2.1.1 ?_
    refine rn_iconst (v := 1) zd_L_law_34.1.2.1.2 rfl ?_
    refine rn_iadd zd_L_law_34.1.2.2.1 ?_
    refine rn_sld h1 zd_L_law_34.1.2.2.2 ?_
    refine rn_aload_n (q := 0) 0 rfl zd_L_law_34.2.1.1.1 ?_
    refine rn_iload_n (q := 3) 3 rfl zd_L_law_34.2.1.1.2 ?_
    refine rn_iconst (v := 2) zd_L_law_34.2.1.2.1 rfl ?_
    refine rn_iadd zd_L_law_34.2.1.2.2 ?_
    refine rn_sld h2 zd_L_law_34.2.2.1.1 ?_
    refine rn_aload_n (q := 0) 0 rfl zd_L_law_34.2.2.1.2 ?_
    refine rn_iload_n (q := 3) 3 rfl zd_L_law_34.2.2.2.1 ?_
    refine rn_iconst (v := 3) zd_L_law_34.2.2.2.2 rfl ?_
    refine rn_iadd zd_L_law_35.1.1.1.1 ?_
    refine rn_sld h3 zd_L_law_35.1.1.1.2 ?_
    refine rn_aload_n (q := 0) 0 rfl zd_L_law_35.1.1.2.1 ?_
    refine rn_iload_n (q := 3) 3 rfl zd_L_law_35.1.1.2.2 ?_
    refine rn_iconst (v := 4) zd_L_law_35.1.2.1.1 rfl ?_
    refine rn_iadd zd_L_law_35.1.2.1.2 ?_
    refine rn_sld h4 zd_L_law_35.1.2.2.1 ?_
    refine rn_if_eq_f (tgt := 860) hc zd_L_law_35.1.2.2.2 rfl ?_
    refine rn_iconst (v := 1) zd_L_law_35.2.1.1.1 rfl ?_
    refine rn_goto (tgt := 861) zd_L_law_35.2.1.1.2 rfl ?_
    refine rn_callVi (As := [.int (zGx G (ztn (x3 + 1))), .int (zGx G (ztn (x3 + 2))), .int (zGx G (ztn (x3 + 3))), .int 1]) (rest := []) zl_L_110 zm_X12_loan ⟨by decide, by decide⟩ (ci := 12) rfl rfl (by decide) k3 rfl rfl (Nat.le_of_ble_eq_true rfl) zd_L_law_35.2.1.2.2 (ok_X12_loan hW k3 hb) ?_
    refine rn_pop (v := .int w) zd_L_law_35.2.2.1.1 rfl ?_
    exact rn_goto (tgt := 1138) zd_L_law_35.2.2.1.2 rfl k
theorem lw_22 {G : zG} {K : zK} {R : zR} {M : zM} {L : zL} {x3 v w : Int32} {r : Option Value} {S' : zS} {M1 : zM} {L1 : zL} {M2 : zM} (hW : zWT R K) (k2 : K[2]? = some (11, 11)) (k3 : K[242]? = some (12, 61)) (h1 : zin (x3 + 1) (zGn G) = true) (h2 : zin (x3 + 2) (zGn G) = true) (h3 : zin (x3 + 3) (zGn G) = true) (h4 : zin (x3 + 4) (zGn G) = true) (h5 : zin (x3 + 5) (zGn G) = true) (ha : n_X11_site R M L 2 (zGx G (ztn (x3 + 1))) = some (v, M1, L1)) (hb : f_X12_site R M1 242 (zGx G (ztn (x3 + 1))) = some (w, M2)) (k : Rn G mt_L 1138 [(0, .ref 1), (1, .ref 2), (2, .ref 242), (3, .int x3)] [] (M2, L1, R, K) r S') : Rn G mt_L 868 [(0, .ref 1), (1, .ref 2), (2, .ref 242), (3, .int x3)] [] (M, L, R, K) r S' := by
  refine rn_aload_n (q := 1) 1 rfl zd_L_law_35.2.2.2.1 ?_
  refine rn_aload_n (q := 0) 0 rfl zd_L_law_35.2.2.2.2 ?_
  refine rn_iload_n (q := 3) 3 rfl zd_L_law_36.1.1.1.1 ?_
  refine rn_iconst (v := 1) zd_L_law_36.1.1.1.2 rfl ?_
  refine rn_iadd zd_L_law_36.1.1.2.1 ?_
  refine rn_sld h1 zd_L_law_36.1.1.2.2 ?_
  refine rn_callVi (As := [.int (zGx G (ztn (x3 + 1)))]) (rest := []) zl_L_111 zm_X11_site ⟨by decide, by decide⟩ (ci := 11) rfl rfl (by decide) k2 rfl rfl (Nat.le_of_ble_eq_true rfl) zd_L_law_36.1.2.1.1 (ok_X11_site hW k2 ha) ?_
  refine rn_pop (v := .int v) zd_L_law_36.1.2.1.2 rfl ?_
  refine rn_aload_n (q := 2) 2 rfl zd_L_law_36.1.2.2.1 ?_
  refine rn_aload_n (q := 0) 0 rfl zd_L_law_36.1.2.2.2 ?_
  refine rn_iload_n (q := 3) 3 rfl zd_L_law_36.2.1.1.1 ?_
  refine rn_iconst (v := 1) zd_L_law_36.2.1.1.2 rfl ?_
  refine rn_iadd zd_L_law_36.2.1.2.1 ?_
  refine rn_sld h1 zd_L_law_36.2.1.2.2 ?_
  refine rn_callVi (As := [.int (zGx G (ztn (x3 + 1)))]) (rest := []) zl_L_114 zm_X12_site ⟨by decide, by decide⟩ (ci := 12) rfl rfl (by decide) k3 rfl rfl (Nat.le_of_ble_eq_true rfl) zd_L_law_36.2.2.1.1 (ok_X12_site hW k3 hb) ?_
  refine rn_pop (v := .int w) zd_L_law_36.2.2.1.2 rfl ?_
  exact rn_goto (tgt := 1138) zd_L_law_36.2.2.2.1 rfl k
theorem lw_23 {G : zG} {K : zK} {R : zR} {M : zM} {L : zL} {x3 v w : Int32} {r : Option Value} {S' : zS} {M1 : zM} {L1 : zL} {M2 : zM} (hW : zWT R K) (k2 : K[2]? = some (11, 11)) (k3 : K[242]? = some (12, 61)) (h1 : zin (x3 + 1) (zGn G) = true) (h2 : zin (x3 + 2) (zGn G) = true) (h3 : zin (x3 + 3) (zGn G) = true) (h4 : zin (x3 + 4) (zGn G) = true) (h5 : zin (x3 + 5) (zGn G) = true) (ha : n_X11_rests R M L 2 (zGx G (ztn (x3 + 1))) (zGx G (ztn (x3 + 2))) = some (v, M1, L1)) (hb : f_X12_rests R M1 242 (zGx G (ztn (x3 + 1))) (zGx G (ztn (x3 + 2))) = some (w, M2)) (k : Rn G mt_L 1138 [(0, .ref 1), (1, .ref 2), (2, .ref 242), (3, .int x3)] [] (M2, L1, R, K) r S') : Rn G mt_L 891 [(0, .ref 1), (1, .ref 2), (2, .ref 242), (3, .int x3)] [] (M, L, R, K) r S' := by
  refine rn_aload_n (q := 1) 1 rfl zd_L_law_36.2.2.2.2 ?_
  refine rn_aload_n (q := 0) 0 rfl zd_L_law_37.1.1.1.1 ?_
  refine rn_iload_n (q := 3) 3 rfl zd_L_law_37.1.1.1.2 ?_
  refine rn_iconst (v := 1) zd_L_law_37.1.1.2.1 rfl ?_
  refine rn_iadd zd_L_law_37.1.1.2.2 ?_
  refine rn_sld h1 zd_L_law_37.1.2.1.1 ?_
  refine rn_aload_n (q := 0) 0 rfl zd_L_law_37.1.2.1.2 ?_
  refine rn_iload_n (q := 3) 3 rfl zd_L_law_37.1.2.2.1 ?_
  refine rn_iconst (v := 2) zd_L_law_37.1.2.2.2 rfl ?_
  refine rn_iadd zd_L_law_37.2.1.1.1 ?_
  refine rn_sld h2 zd_L_law_37.2.1.1.2 ?_
  refine rn_callVi (As := [.int (zGx G (ztn (x3 + 1))), .int (zGx G (ztn (x3 + 2)))]) (rest := []) zl_L_115 zm_X11_rests ⟨by decide, by decide⟩ (ci := 11) rfl rfl (by decide) k2 rfl rfl (Nat.le_of_ble_eq_true rfl) zd_L_law_37.2.1.2.1 (ok_X11_rests hW k2 ha) ?_
  refine rn_pop (v := .int v) zd_L_law_37.2.1.2.2 rfl ?_
  refine rn_aload_n (q := 2) 2 rfl zd_L_law_37.2.2.1.1 ?_
  refine rn_aload_n (q := 0) 0 rfl zd_L_law_37.2.2.1.2 ?_
  refine rn_iload_n (q := 3) 3 rfl zd_L_law_37.2.2.2.1 ?_
  refine rn_iconst (v := 1) zd_L_law_37.2.2.2.2 rfl ?_
  refine rn_iadd zd_L_law_38.1.1.1.1 ?_
  refine rn_sld h1 zd_L_law_38.1.1.1.2 ?_
  refine rn_aload_n (q := 0) 0 rfl zd_L_law_38.1.1.2.1 ?_
  refine rn_iload_n (q := 3) 3 rfl zd_L_law_38.1.1.2.2 ?_
  refine rn_iconst (v := 2) zd_L_law_38.1.2.1.1 rfl ?_
  refine rn_iadd zd_L_law_38.1.2.1.2 ?_
  refine rn_sld h2 zd_L_law_38.1.2.2.1 ?_
  refine rn_callVi (As := [.int (zGx G (ztn (x3 + 1))), .int (zGx G (ztn (x3 + 2)))]) (rest := []) zl_L_118 zm_X12_rests ⟨by decide, by decide⟩ (ci := 12) rfl rfl (by decide) k3 rfl rfl (Nat.le_of_ble_eq_true rfl) zd_L_law_38.1.2.2.2 (ok_X12_rests hW k3 hb) ?_
  refine rn_pop (v := .int w) zd_L_law_38.2.1.1.1 rfl ?_
  exact rn_goto (tgt := 1138) zd_L_law_38.2.1.1.2 rfl k
theorem lw_24 {G : zG} {K : zK} {R : zR} {M : zM} {L : zL} {x3 v w : Int32} {r : Option Value} {S' : zS} {M1 : zM} {M2 : zM} (hW : zWT R K) (k2 : K[2]? = some (11, 11)) (k3 : K[242]? = some (12, 61)) (h1 : zin (x3 + 1) (zGn G) = true) (h2 : zin (x3 + 2) (zGn G) = true) (h3 : zin (x3 + 3) (zGn G) = true) (h4 : zin (x3 + 4) (zGn G) = true) (h5 : zin (x3 + 5) (zGn G) = true) (ha : f_X11_tell R M 2 (zGx G (ztn (x3 + 1))) (zGx G (ztn (x3 + 2))) = some (v, M1)) (hb : f_X12_tell_ R M1 242 (zGx G (ztn (x3 + 1))) (zGx G (ztn (x3 + 2))) = some (w, M2)) (k : Rn G mt_L 1138 [(0, .ref 1), (1, .ref 2), (2, .ref 242), (3, .int x3)] [] (M2, L, R, K) r S') : Rn G mt_L 924 [(0, .ref 1), (1, .ref 2), (2, .ref 242), (3, .int x3)] [] (M, L, R, K) r S' := by
  refine rn_aload_n (q := 1) 1 rfl zd_L_law_38.2.1.2.1 ?_
  refine rn_aload_n (q := 0) 0 rfl zd_L_law_38.2.1.2.2 ?_
  refine rn_iload_n (q := 3) 3 rfl zd_L_law_38.2.2.1.1 ?_
  refine rn_iconst (v := 1) zd_L_law_38.2.2.1.2 rfl ?_
  refine rn_iadd zd_L_law_38.2.2.2.1 ?_
  refine rn_sld h1 zd_L_law_38.2.2.2.2 ?_
  refine rn_aload_n (q := 0) 0 rfl zd_L_law_39.1.1.1.1 ?_
  refine rn_iload_n (q := 3) 3 rfl zd_L_law_39.1.1.1.2 ?_
  refine rn_iconst (v := 2) zd_L_law_39.1.1.2.1 rfl ?_
  refine rn_iadd zd_L_law_39.1.1.2.2 ?_
  refine rn_sld h2 zd_L_law_39.1.2.1.1 ?_
  refine rn_callVi (As := [.int (zGx G (ztn (x3 + 1))), .int (zGx G (ztn (x3 + 2)))]) (rest := []) zl_L_119 zm_X11_tell ⟨by decide, by decide⟩ (ci := 11) rfl rfl (by decide) k2 rfl rfl (Nat.le_of_ble_eq_true rfl) zd_L_law_39.1.2.1.2 (ok_X11_tell hW k2 ha) ?_
  refine rn_pop (v := .int v) zd_L_law_39.1.2.2.1 rfl ?_
  refine rn_aload_n (q := 2) 2 rfl zd_L_law_39.1.2.2.2 ?_
  refine rn_aload_n (q := 0) 0 rfl zd_L_law_39.2.1.1.1 ?_
  refine rn_iload_n (q := 3) 3 rfl zd_L_law_39.2.1.1.2 ?_
  refine rn_iconst (v := 1) zd_L_law_39.2.1.2.1 rfl ?_
  refine rn_iadd zd_L_law_39.2.1.2.2 ?_
  refine rn_sld h1 zd_L_law_39.2.2.1.1 ?_
  refine rn_aload_n (q := 0) 0 rfl zd_L_law_39.2.2.1.2 ?_
  refine rn_iload_n (q := 3) 3 rfl zd_L_law_39.2.2.2.1 ?_
  refine rn_iconst (v := 2) zd_L_law_39.2.2.2.2 rfl ?_
  refine rn_iadd zd_L_law_40.1.1.1.1 ?_
  refine rn_sld h2 zd_L_law_40.1.1.1.2 ?_
  refine rn_callVi (As := [.int (zGx G (ztn (x3 + 1))), .int (zGx G (ztn (x3 + 2)))]) (rest := []) zl_L_122 zm_X12_tell_ ⟨by decide, by decide⟩ (ci := 12) rfl rfl (by decide) k3 rfl rfl (Nat.le_of_ble_eq_true rfl) zd_L_law_40.1.1.2.1 (ok_X12_tell_ hW k3 hb) ?_
  refine rn_pop (v := .int w) zd_L_law_40.1.1.2.2 rfl ?_
  exact rn_goto (tgt := 1138) zd_L_law_40.1.2.1.1 rfl k
theorem lw_25 {G : zG} {K : zK} {R : zR} {M : zM} {L : zL} {x3 v w : Int32} {r : Option Value} {S' : zS} {M1 : zM} {M2 : zM} (hW : zWT R K) (k2 : K[2]? = some (11, 11)) (k3 : K[242]? = some (12, 61)) (h1 : zin (x3 + 1) (zGn G) = true) (h2 : zin (x3 + 2) (zGn G) = true) (h3 : zin (x3 + 3) (zGn G) = true) (h4 : zin (x3 + 4) (zGn G) = true) (h5 : zin (x3 + 5) (zGn G) = true) (ha : f_X11_forget R M 2 = some (v, M1)) (hb : f_X12_forget M1 242 = some (w, M2)) (k : Rn G mt_L 1138 [(0, .ref 1), (1, .ref 2), (2, .ref 242), (3, .int x3)] [] (M2, L, R, K) r S') : Rn G mt_L 957 [(0, .ref 1), (1, .ref 2), (2, .ref 242), (3, .int x3)] [] (M, L, R, K) r S' := by
  refine rn_aload_n (q := 1) 1 rfl zd_L_law_40.1.2.1.2 ?_
  refine rn_callVi (As := []) (rest := []) zl_L_123 zm_X11_forget ⟨by decide, by decide⟩ (ci := 11) rfl rfl (by decide) k2 rfl rfl (Nat.le_of_ble_eq_true rfl) zd_L_law_40.1.2.2.1 (ok_X11_forget hW k2 ha) ?_
  refine rn_pop (v := .int v) zd_L_law_40.1.2.2.2 rfl ?_
  refine rn_aload_n (q := 2) 2 rfl zd_L_law_40.2.1.1.1 ?_
  refine rn_callVi (As := []) (rest := []) zl_L_126 zm_X12_forget ⟨by decide, by decide⟩ (ci := 12) rfl rfl (by decide) k3 rfl rfl (Nat.le_of_ble_eq_true rfl) zd_L_law_40.2.1.1.2 (ok_X12_forget hW k3 hb) ?_
  refine rn_pop (v := .int w) zd_L_law_40.2.1.2.1 rfl ?_
  exact rn_goto (tgt := 1138) zd_L_law_40.2.1.2.2 rfl k
theorem lw_26 {G : zG} {K : zK} {R : zR} {M : zM} {L : zL} {x3 v w : Int32} {r : Option Value} {S' : zS} {M1 : zM} {L1 : zL} {M2 : zM} (hW : zWT R K) (k2 : K[2]? = some (11, 11)) (k3 : K[242]? = some (12, 61)) (h1 : zin (x3 + 1) (zGn G) = true) (h2 : zin (x3 + 2) (zGn G) = true) (h3 : zin (x3 + 3) (zGn G) = true) (h4 : zin (x3 + 4) (zGn G) = true) (h5 : zin (x3 + 5) (zGn G) = true) (ha : n_X11_fits R M L 2 (zGx G (ztn (x3 + 1))) (zGx G (ztn (x3 + 2))) = some (v, M1, L1)) (hb : f_X12_fits R M1 242 (zGx G (ztn (x3 + 1))) (zGx G (ztn (x3 + 2))) = some (w, M2)) (k : Rn G mt_L 1138 [(0, .ref 1), (1, .ref 2), (2, .ref 242), (3, .int x3)] [] (M2, L1, R, K) r S') : Rn G mt_L 970 [(0, .ref 1), (1, .ref 2), (2, .ref 242), (3, .int x3)] [] (M, L, R, K) r S' := by
  refine rn_aload_n (q := 1) 1 rfl zd_L_law_40.2.2.1.1 ?_
  refine rn_aload_n (q := 0) 0 rfl zd_L_law_40.2.2.1.2 ?_
  refine rn_iload_n (q := 3) 3 rfl zd_L_law_40.2.2.2.1 ?_
  refine rn_iconst (v := 1) zd_L_law_40.2.2.2.2 rfl ?_
  refine rn_iadd zd_L_law_41.1.1.1.1 ?_
  refine rn_sld h1 zd_L_law_41.1.1.1.2 ?_
  refine rn_aload_n (q := 0) 0 rfl zd_L_law_41.1.1.2.1 ?_
  refine rn_iload_n (q := 3) 3 rfl zd_L_law_41.1.1.2.2 ?_
  refine rn_iconst (v := 2) zd_L_law_41.1.2.1.1 rfl ?_
  refine rn_iadd zd_L_law_41.1.2.1.2 ?_
  refine rn_sld h2 zd_L_law_41.1.2.2.1 ?_
  refine rn_callVi (As := [.int (zGx G (ztn (x3 + 1))), .int (zGx G (ztn (x3 + 2)))]) (rest := []) zl_L_127 zm_X11_fits ⟨by decide, by decide⟩ (ci := 11) rfl rfl (by decide) k2 rfl rfl (Nat.le_of_ble_eq_true rfl) zd_L_law_41.1.2.2.2 (ok_X11_fits hW k2 ha) ?_
  refine rn_pop (v := .int v) zd_L_law_41.2.1.1.1 rfl ?_
  refine rn_aload_n (q := 2) 2 rfl zd_L_law_41.2.1.1.2 ?_
  refine rn_aload_n (q := 0) 0 rfl zd_L_law_41.2.1.2.1 ?_
  refine rn_iload_n (q := 3) 3 rfl zd_L_law_41.2.1.2.2 ?_
  refine rn_iconst (v := 1) zd_L_law_41.2.2.1.1 rfl ?_
  refine rn_iadd zd_L_law_41.2.2.1.2 ?_
  refine rn_sld h1 zd_L_law_41.2.2.2.1 ?_
  refine rn_aload_n (q := 0) 0 rfl zd_L_law_41.2.2.2.2 ?_
  refine rn_iload_n (q := 3) 3 rfl zd_L_law_42.1.1.1.1 ?_
  refine rn_iconst (v := 2) zd_L_law_42.1.1.1.2 rfl ?_
  refine rn_iadd zd_L_law_42.1.1.2.1 ?_
  refine rn_sld h2 zd_L_law_42.1.1.2.2 ?_
  refine rn_callVi (As := [.int (zGx G (ztn (x3 + 1))), .int (zGx G (ztn (x3 + 2)))]) (rest := []) zl_L_130 zm_X12_fits ⟨by decide, by decide⟩ (ci := 12) rfl rfl (by decide) k3 rfl rfl (Nat.le_of_ble_eq_true rfl) zd_L_law_42.1.2.1.1 (ok_X12_fits hW k3 hb) ?_
  refine rn_pop (v := .int w) zd_L_law_42.1.2.1.2 rfl ?_
  exact rn_goto (tgt := 1138) zd_L_law_42.1.2.2.1 rfl k
theorem lw_27 {G : zG} {K : zK} {R : zR} {M : zM} {L : zL} {x3 v w : Int32} {r : Option Value} {S' : zS} {M1 : zM} {L1 : zL} {M2 : zM} (hW : zWT R K) (k2 : K[2]? = some (11, 11)) (k3 : K[242]? = some (12, 61)) (h1 : zin (x3 + 1) (zGn G) = true) (h2 : zin (x3 + 2) (zGn G) = true) (h3 : zin (x3 + 3) (zGn G) = true) (h4 : zin (x3 + 4) (zGn G) = true) (h5 : zin (x3 + 5) (zGn G) = true) (ha : n_X11_span R M L 2 (zGx G (ztn (x3 + 1))) (zGx G (ztn (x3 + 2))) (zGx G (ztn (x3 + 3))) = some (v, M1, L1)) (hb : f_X12_span R M1 242 (zGx G (ztn (x3 + 1))) (zGx G (ztn (x3 + 2))) (zGx G (ztn (x3 + 3))) = some (w, M2)) (k : Rn G mt_L 1138 [(0, .ref 1), (1, .ref 2), (2, .ref 242), (3, .int x3)] [] (M2, L1, R, K) r S') : Rn G mt_L 1003 [(0, .ref 1), (1, .ref 2), (2, .ref 242), (3, .int x3)] [] (M, L, R, K) r S' := by
  refine rn_aload_n (q := 1) 1 rfl zd_L_law_42.1.2.2.2 ?_
  refine rn_aload_n (q := 0) 0 rfl zd_L_law_42.2.1.1.1 ?_
  refine rn_iload_n (q := 3) 3 rfl zd_L_law_42.2.1.1.2 ?_
  refine rn_iconst (v := 1) zd_L_law_42.2.1.2.1 rfl ?_
  refine rn_iadd zd_L_law_42.2.1.2.2 ?_
  refine rn_sld h1 zd_L_law_42.2.2.1.1 ?_
  refine rn_aload_n (q := 0) 0 rfl zd_L_law_42.2.2.1.2 ?_
  refine rn_iload_n (q := 3) 3 rfl zd_L_law_42.2.2.2.1 ?_
  refine rn_iconst (v := 2) zd_L_law_42.2.2.2.2 rfl ?_
  refine rn_iadd zd_L_law_43.1.1.1.1 ?_
  refine rn_sld h2 zd_L_law_43.1.1.1.2 ?_
  refine rn_aload_n (q := 0) 0 rfl zd_L_law_43.1.1.2.1 ?_
  refine rn_iload_n (q := 3) 3 rfl zd_L_law_43.1.1.2.2 ?_
  refine rn_iconst (v := 3) zd_L_law_43.1.2.1.1 rfl ?_
  refine rn_iadd zd_L_law_43.1.2.1.2 ?_
  refine rn_sld h3 zd_L_law_43.1.2.2.1 ?_
  refine rn_callVi (As := [.int (zGx G (ztn (x3 + 1))), .int (zGx G (ztn (x3 + 2))), .int (zGx G (ztn (x3 + 3)))]) (rest := []) zl_L_131 zm_X11_span ⟨by decide, by decide⟩ (ci := 11) rfl rfl (by decide) k2 rfl rfl (Nat.le_of_ble_eq_true rfl) zd_L_law_43.1.2.2.2 (ok_X11_span hW k2 ha) ?_
  refine rn_pop (v := .int v) zd_L_law_43.2.1.1.1 rfl ?_
  refine rn_aload_n (q := 2) 2 rfl zd_L_law_43.2.1.1.2 ?_
  refine rn_aload_n (q := 0) 0 rfl zd_L_law_43.2.1.2.1 ?_
  refine rn_iload_n (q := 3) 3 rfl zd_L_law_43.2.1.2.2 ?_
  refine rn_iconst (v := 1) zd_L_law_43.2.2.1.1 rfl ?_
  refine rn_iadd zd_L_law_43.2.2.1.2 ?_
  refine rn_sld h1 zd_L_law_43.2.2.2.1 ?_
  refine rn_aload_n (q := 0) 0 rfl zd_L_law_43.2.2.2.2 ?_
  refine rn_iload_n (q := 3) 3 rfl zd_L_law_44.1.1.1.1 ?_
  refine rn_iconst (v := 2) zd_L_law_44.1.1.1.2 rfl ?_
  refine rn_iadd zd_L_law_44.1.1.2.1 ?_
  refine rn_sld h2 zd_L_law_44.1.1.2.2 ?_
  refine rn_aload_n (q := 0) 0 rfl zd_L_law_44.1.2.1.1 ?_
  refine rn_iload_n (q := 3) 3 rfl zd_L_law_44.1.2.1.2 ?_
  refine rn_iconst (v := 3) zd_L_law_44.1.2.2.1 rfl ?_
  refine rn_iadd zd_L_law_44.1.2.2.2 ?_
  refine rn_sld h3 zd_L_law_44.2.1.1.1 ?_
  refine rn_callVi (As := [.int (zGx G (ztn (x3 + 1))), .int (zGx G (ztn (x3 + 2))), .int (zGx G (ztn (x3 + 3)))]) (rest := []) zl_L_134 zm_X12_span ⟨by decide, by decide⟩ (ci := 12) rfl rfl (by decide) k3 rfl rfl (Nat.le_of_ble_eq_true rfl) zd_L_law_44.2.1.1.2 (ok_X12_span hW k3 hb) ?_
  refine rn_pop (v := .int w) zd_L_law_44.2.1.2.1 rfl ?_
  exact rn_goto (tgt := 1138) zd_L_law_44.2.1.2.2 rfl k
theorem lw_28 {G : zG} {K : zK} {R : zR} {M : zM} {L : zL} {x3 v w : Int32} {r : Option Value} {S' : zS} {M1 : zM} {L1 : zL} {M2 : zM} (hW : zWT R K) (k2 : K[2]? = some (11, 11)) (k3 : K[242]? = some (12, 61)) (h1 : zin (x3 + 1) (zGn G) = true) (h2 : zin (x3 + 2) (zGn G) = true) (h3 : zin (x3 + 3) (zGn G) = true) (h4 : zin (x3 + 4) (zGn G) = true) (h5 : zin (x3 + 5) (zGn G) = true) (ha : n_X11_ago R M L 2 (zGx G (ztn (x3 + 1))) = some (v, M1, L1)) (hb : f_X12_ago R M1 242 (zGx G (ztn (x3 + 1))) = some (w, M2)) (k : Rn G mt_L 1138 [(0, .ref 1), (1, .ref 2), (2, .ref 242), (3, .int x3)] [] (M2, L1, R, K) r S') : Rn G mt_L 1046 [(0, .ref 1), (1, .ref 2), (2, .ref 242), (3, .int x3)] [] (M, L, R, K) r S' := by
  refine rn_aload_n (q := 1) 1 rfl zd_L_law_44.2.2.1.1 ?_
  refine rn_aload_n (q := 0) 0 rfl zd_L_law_44.2.2.1.2 ?_
  refine rn_iload_n (q := 3) 3 rfl zd_L_law_44.2.2.2.1 ?_
  refine rn_iconst (v := 1) zd_L_law_44.2.2.2.2 rfl ?_
  refine rn_iadd zd_L_law_45.1.1.1.1 ?_
  refine rn_sld h1 zd_L_law_45.1.1.1.2 ?_
  refine rn_callVi (As := [.int (zGx G (ztn (x3 + 1)))]) (rest := []) zl_L_135 zm_X11_ago ⟨by decide, by decide⟩ (ci := 11) rfl rfl (by decide) k2 rfl rfl (Nat.le_of_ble_eq_true rfl) zd_L_law_45.1.1.2.1 (ok_X11_ago hW k2 ha) ?_
  refine rn_pop (v := .int v) zd_L_law_45.1.1.2.2 rfl ?_
  refine rn_aload_n (q := 2) 2 rfl zd_L_law_45.1.2.1.1 ?_
  refine rn_aload_n (q := 0) 0 rfl zd_L_law_45.1.2.1.2 ?_
  refine rn_iload_n (q := 3) 3 rfl zd_L_law_45.1.2.2.1 ?_
  refine rn_iconst (v := 1) zd_L_law_45.1.2.2.2 rfl ?_
  refine rn_iadd zd_L_law_45.2.1.1.1 ?_
  refine rn_sld h1 zd_L_law_45.2.1.1.2 ?_
  refine rn_callVi (As := [.int (zGx G (ztn (x3 + 1)))]) (rest := []) zl_L_138 zm_X12_ago ⟨by decide, by decide⟩ (ci := 12) rfl rfl (by decide) k3 rfl rfl (Nat.le_of_ble_eq_true rfl) zd_L_law_45.2.1.2.1 (ok_X12_ago hW k3 hb) ?_
  refine rn_pop (v := .int w) zd_L_law_45.2.1.2.2 rfl ?_
  exact rn_goto (tgt := 1138) zd_L_law_45.2.2.1.1 rfl k
theorem lw_29 {G : zG} {K : zK} {R : zR} {M : zM} {L : zL} {x3 v w : Int32} {r : Option Value} {S' : zS} {M1 : zM} {L1 : zL} {M2 : zM} (hW : zWT R K) (k2 : K[2]? = some (11, 11)) (k3 : K[242]? = some (12, 61)) (h1 : zin (x3 + 1) (zGn G) = true) (h2 : zin (x3 + 2) (zGn G) = true) (h3 : zin (x3 + 3) (zGn G) = true) (h4 : zin (x3 + 4) (zGn G) = true) (h5 : zin (x3 + 5) (zGn G) = true) (ha : n_X11_hold R M L 2 (zGx G (ztn (x3 + 1))) = some (v, M1, L1)) (hb : f_X12_hold R M1 242 (zGx G (ztn (x3 + 1))) = some (w, M2)) (k : Rn G mt_L 1138 [(0, .ref 1), (1, .ref 2), (2, .ref 242), (3, .int x3)] [] (M2, L1, R, K) r S') : Rn G mt_L 1069 [(0, .ref 1), (1, .ref 2), (2, .ref 242), (3, .int x3)] [] (M, L, R, K) r S' := by
  refine rn_aload_n (q := 1) 1 rfl zd_L_law_45.2.2.1.2 ?_
  refine rn_aload_n (q := 0) 0 rfl zd_L_law_45.2.2.2.1 ?_
  refine rn_iload_n (q := 3) 3 rfl zd_L_law_45.2.2.2.2 ?_
  refine rn_iconst (v := 1) zd_L_law_46.1.1.1.1 rfl ?_
  refine rn_iadd zd_L_law_46.1.1.1.2 ?_
  refine rn_sld h1 zd_L_law_46.1.1.2.1 ?_
  refine rn_callVi (As := [.int (zGx G (ztn (x3 + 1)))]) (rest := []) zl_L_139 zm_X11_hold ⟨by decide, by decide⟩ (ci := 11) rfl rfl (by decide) k2 rfl rfl (Nat.le_of_ble_eq_true rfl) zd_L_law_46.1.1.2.2 (ok_X11_hold hW k2 ha) ?_
  refine rn_pop (v := .int v) zd_L_law_46.1.2.1.1 rfl ?_
  refine rn_aload_n (q := 2) 2 rfl zd_L_law_46.1.2.1.2 ?_
  refine rn_aload_n (q := 0) 0 rfl zd_L_law_46.1.2.2.1 ?_
  refine rn_iload_n (q := 3) 3 rfl zd_L_law_46.1.2.2.2 ?_
  refine rn_iconst (v := 1) zd_L_law_46.2.1.1.1 rfl ?_
  refine rn_iadd zd_L_law_46.2.1.1.2 ?_
  refine rn_sld h1 zd_L_law_46.2.1.2.1 ?_
  refine rn_callVi (As := [.int (zGx G (ztn (x3 + 1)))]) (rest := []) zl_L_143 zm_X12_hold ⟨by decide, by decide⟩ (ci := 12) rfl rfl (by decide) k3 rfl rfl (Nat.le_of_ble_eq_true rfl) zd_L_law_46.2.1.2.2 (ok_X12_hold hW k3 hb) ?_
  refine rn_pop (v := .int w) zd_L_law_46.2.2.1.1 rfl ?_
  exact rn_goto (tgt := 1138) zd_L_law_46.2.2.1.2 rfl k
theorem lw_30 {G : zG} {K : zK} {R : zR} {M : zM} {L : zL} {x3 v : Int32} {r : Option Value} {S' : zS} {M1 : zM} {L1 : zL} {M2 : zM} (hW : zWT R K) (k2 : K[2]? = some (11, 11)) (k3 : K[242]? = some (12, 61)) (h1 : zin (x3 + 1) (zGn G) = true) (h2 : zin (x3 + 2) (zGn G) = true) (h3 : zin (x3 + 3) (zGn G) = true) (h4 : zin (x3 + 4) (zGn G) = true) (h5 : zin (x3 + 5) (zGn G) = true) (ha : n_X11_restore R M L 2 (zGx G (ztn (x3 + 1))) = some (v, M1, L1)) (hb : f_X12_restore R M1 242 (zGx G (ztn (x3 + 1))) = some (v, M2)) (k : Rn G mt_L 1138 [(0, .ref 1), (1, .ref 2), (2, .ref 242), (3, .int x3)] [] (M2, L1, R, K) r S') : Rn G mt_L 1092 [(0, .ref 1), (1, .ref 2), (2, .ref 242), (3, .int x3)] [] (M, L, R, K) r S' := by
  refine rn_aload_n (q := 1) 1 rfl zd_L_law_46.2.2.2.1 ?_
  refine rn_aload_n (q := 0) 0 rfl zd_L_law_46.2.2.2.2 ?_
  refine rn_iload_n (q := 3) 3 rfl zd_L_law_47.1.1.1.1 ?_
  refine rn_iconst (v := 1) zd_L_law_47.1.1.1.2 rfl ?_
  refine rn_iadd zd_L_law_47.1.1.2.1 ?_
  refine rn_sld h1 zd_L_law_47.1.1.2.2 ?_
  refine rn_callVi (As := [.int (zGx G (ztn (x3 + 1)))]) (rest := []) zl_L_144 zm_X11_restore ⟨by decide, by decide⟩ (ci := 11) rfl rfl (by decide) k2 rfl rfl (Nat.le_of_ble_eq_true rfl) zd_L_law_47.1.2.1.1 (ok_X11_restore hW k2 ha) ?_
  refine rn_aload_n (q := 2) 2 rfl zd_L_law_47.1.2.1.2 ?_
  refine rn_aload_n (q := 0) 0 rfl zd_L_law_47.1.2.2.1 ?_
  refine rn_iload_n (q := 3) 3 rfl zd_L_law_47.1.2.2.2 ?_
  refine rn_iconst (v := 1) zd_L_law_47.2.1.1.1 rfl ?_
  refine rn_iadd zd_L_law_47.2.1.1.2 ?_
  refine rn_sld h1 zd_L_law_47.2.1.2.1 ?_
  refine rn_callVi (As := [.int (zGx G (ztn (x3 + 1)))]) (rest := [.int v]) zl_L_147 zm_X12_restore ⟨by decide, by decide⟩ (ci := 12) rfl rfl (by decide) k3 rfl rfl (Nat.le_of_ble_eq_true rfl) zd_L_law_47.2.1.2.2 (ok_X12_restore hW k3 hb) ?_
  exact rn_icmp_eq_t (tgt := 1138) rfl zd_L_law_47.2.2.1.1 rfl k
theorem lw_31 {G : zG} {K : zK} {R : zR} {M : zM} {L : zL} {x3 v w : Int32} {r : Option Value} {S' : zS} (hW : zWT R K) (k2 : K[2]? = some (11, 11)) (k3 : K[242]? = some (12, 61)) (h1 : zin (x3 + 1) (zGn G) = true) (h2 : zin (x3 + 2) (zGn G) = true) (h3 : zin (x3 + 3) (zGn G) = true) (h4 : zin (x3 + 4) (zGn G) = true) (h5 : zin (x3 + 5) (zGn G) = true) (ha : f_X11_count R M 2 (zGx G (ztn (x3 + 1))) = some v) (hb : f_X12_count R M 242 (zGx G (ztn (x3 + 1))) = some w) (k : Rn G mt_L 1138 [(0, .ref 1), (1, .ref 2), (2, .ref 242), (3, .int x3)] [] (M, L, R, K) r S') : Rn G mt_L 1115 [(0, .ref 1), (1, .ref 2), (2, .ref 242), (3, .int x3)] [] (M, L, R, K) r S' := by
  refine rn_aload_n (q := 1) 1 rfl zd_L_law_47.2.2.2.2 ?_
  refine rn_aload_n (q := 0) 0 rfl zd_L_law_48.1.1.1.1 ?_
  refine rn_iload_n (q := 3) 3 rfl zd_L_law_48.1.1.1.2 ?_
  refine rn_iconst (v := 1) zd_L_law_48.1.1.2.1 rfl ?_
  refine rn_iadd zd_L_law_48.1.1.2.2 ?_
  refine rn_sld h1 zd_L_law_48.1.2.1.1 ?_
  refine rn_callVi (As := [.int (zGx G (ztn (x3 + 1)))]) (rest := []) zl_L_148 zm_X11_count ⟨by decide, by decide⟩ (ci := 11) rfl rfl (by decide) k2 rfl rfl (Nat.le_of_ble_eq_true rfl) zd_L_law_48.1.2.1.2 (ok_X11_count hW k2 ha) ?_
  refine rn_pop (v := .int v) zd_L_law_48.1.2.2.1 rfl ?_
  refine rn_aload_n (q := 2) 2 rfl zd_L_law_48.1.2.2.2 ?_
  refine rn_aload_n (q := 0) 0 rfl zd_L_law_48.2.1.1.1 ?_
  refine rn_iload_n (q := 3) 3 rfl zd_L_law_48.2.1.1.2 ?_
  refine rn_iconst (v := 1) zd_L_law_48.2.1.2.1 rfl ?_
  refine rn_iadd zd_L_law_48.2.1.2.2 ?_
  refine rn_sld h1 zd_L_law_48.2.2.1.1 ?_
  refine rn_callVi (As := [.int (zGx G (ztn (x3 + 1)))]) (rest := []) zl_L_151 zm_X12_count ⟨by decide, by decide⟩ (ci := 12) rfl rfl (by decide) k3 rfl rfl (Nat.le_of_ble_eq_true rfl) zd_L_law_48.2.2.1.2 (ok_X12_count hW k3 hb) ?_
  refine rn_pop (v := .int w) zd_L_law_48.2.2.2.1 rfl ?_
  exact rn_goto (tgt := 1138) zd_L_law_48.2.2.2.2 rfl k

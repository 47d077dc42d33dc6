def f_X12_appends (y0 : Int64) (x2 : Int32) : Option (Int64) :=
  if x2 = 0 then (
    some y0
  ) else (
    some (((27 : Int64) * y0) + ((x2 - (97 : Int32)) + (1 : Int32)).toInt64)
  )
set_option maxRecDepth 4000 in
theorem ok_X12_appends {G : zG} {K : zK} {R : zR} {M : zM} {L : zL} (hW : zWT R K) {y0 : Int64} {x2 : Int32} {r' : Int64} (h : f_X12_appends y0 x2 = some r') : Rm G mt_X12_appends [.long y0, .int x2] (M, L, R, K) (some (.long r')) (M, L, R, K) := by
  refine rm_rn rfl rfl (Nat.le_of_ble_eq_true rfl) ?_
  show Rn G mt_X12_appends 0 [(0, .long y0), (2, .int x2)] [] (M, L, R, K) (some (.long r')) (M, L, R, K)
  unfold f_X12_appends at h
  refine rn_iload_n (q := 2) 1 rfl zd_X12_appends_0.1.1.1 ?_
  rcases zif_e h with ⟨hc1, h⟩ | ⟨hc1, h⟩
  · refine rn_if_ne_f (tgt := 8) hc1 zd_X12_appends_0.1.1.2.1 rfl ?_
    refine rn_lload_n (q := 0) 0 rfl zd_X12_appends_0.1.1.2.2 ?_
    refine rn_goto (tgt := 21) zd_X12_appends_0.1.2.1.1 rfl ?_
    cases h
    exact rn_lret zd_X12_appends_0.2.2.2.2 rfl
  · refine rn_if_ne_t (tgt := 8) hc1 zd_X12_appends_0.1.1.2.1 rfl ?_
    refine rn_ldc2 (v := 27) zk_X12_154 zd_X12_appends_0.1.2.1.2 ?_
    refine rn_lload_n (q := 0) 0 rfl zd_X12_appends_0.1.2.2.1 ?_
    refine rn_lmul zd_X12_appends_0.1.2.2.2 ?_
    refine rn_iload_n (q := 2) 1 rfl zd_X12_appends_0.2.1.1.1 ?_
    refine rn_bipush (v := 97) zd_X12_appends_0.2.1.1.2 rfl ?_
    refine rn_isub zd_X12_appends_0.2.1.2.1 ?_
    refine rn_iconst (v := 1) zd_X12_appends_0.2.1.2.2 rfl ?_
    refine rn_iadd zd_X12_appends_0.2.2.1.1 ?_
    refine rn_i2l zd_X12_appends_0.2.2.1.2 ?_
    refine rn_ladd zd_X12_appends_0.2.2.2.1 ?_
    cases h
    exact rn_lret zd_X12_appends_0.2.2.2.2 rfl
def f_X12_word (x0 : Int32) (x1 : Int32) (x2 : Int32) (x3 : Int32) (x4 : Int32) (x5 : Int32) (x6 : Int32) : Option (Int64) :=
  zbd (f_X12_appends (0 : Int64) x0) fun r1 =>
  zbd (f_X12_appends r1 x1) fun r3 =>
  zbd (f_X12_appends r3 x2) fun r5 =>
  zbd (f_X12_appends r5 x3) fun r7 =>
  zbd (f_X12_appends r7 x4) fun r9 =>
  zbd (f_X12_appends r9 x5) fun r11 =>
  zbd (f_X12_appends r11 x6) fun r13 =>
  some r13
set_option maxRecDepth 4000 in
theorem ok_X12_word {G : zG} {K : zK} {R : zR} {M : zM} {L : zL} (hW : zWT R K) {x0 : Int32} {x1 : Int32} {x2 : Int32} {x3 : Int32} {x4 : Int32} {x5 : Int32} {x6 : Int32} {r' : Int64} (h : f_X12_word x0 x1 x2 x3 x4 x5 x6 = some r') : Rm G mt_X12_word [.int x0, .int x1, .int x2, .int x3, .int x4, .int x5, .int x6] (M, L, R, K) (some (.long r')) (M, L, R, K) := by
  refine rm_rn rfl rfl (Nat.le_of_ble_eq_true rfl) ?_
  show Rn G mt_X12_word 0 [(0, .int x0), (1, .int x1), (2, .int x2), (3, .int x3), (4, .int x4), (5, .int x5), (6, .int x6)] [] (M, L, R, K) (some (.long r')) (M, L, R, K)
  unfold f_X12_word at h
  refine rn_lconst (v := 0) zd_X12_word_0.1.1.1.1 rfl ?_
  refine rn_iload_n (q := 0) 0 rfl zd_X12_word_0.1.1.1.2 ?_
  obtain ⟨r1, h2, h⟩ := zbd_e h
  refine rn_callSl (As := [.long (0 : Int64), .int x0]) (rest := []) zl_X12_156 zm_X12_appends ⟨by decide, by decide⟩ rfl rfl (Nat.le_of_ble_eq_true rfl) zd_X12_word_0.1.1.2.1 (ok_X12_appends hW h2) ?_
  refine rn_iload_n (q := 1) 1 rfl zd_X12_word_0.1.1.2.2 ?_
  obtain ⟨r3, h4, h⟩ := zbd_e h
  refine rn_callSl (As := [.long r1, .int x1]) (rest := []) zl_X12_156 zm_X12_appends ⟨by decide, by decide⟩ rfl rfl (Nat.le_of_ble_eq_true rfl) zd_X12_word_0.1.2.1.1 (ok_X12_appends hW h4) ?_
  refine rn_iload_n (q := 2) 2 rfl zd_X12_word_0.1.2.1.2 ?_
  obtain ⟨r5, h6, h⟩ := zbd_e h
  refine rn_callSl (As := [.long r3, .int x2]) (rest := []) zl_X12_156 zm_X12_appends ⟨by decide, by decide⟩ rfl rfl (Nat.le_of_ble_eq_true rfl) zd_X12_word_0.1.2.2.1 (ok_X12_appends hW h6) ?_
  refine rn_iload_n (q := 3) 3 rfl zd_X12_word_0.1.2.2.2 ?_
  obtain ⟨r7, h8, h⟩ := zbd_e h
  refine rn_callSl (As := [.long r5, .int x3]) (rest := []) zl_X12_156 zm_X12_appends ⟨by decide, by decide⟩ rfl rfl (Nat.le_of_ble_eq_true rfl) zd_X12_word_0.2.1.1.1 (ok_X12_appends hW h8) ?_
  refine rn_iload 4 rfl zd_X12_word_0.2.1.1.2 ?_
  obtain ⟨r9, h10, h⟩ := zbd_e h
  refine rn_callSl (As := [.long r7, .int x4]) (rest := []) zl_X12_156 zm_X12_appends ⟨by decide, by decide⟩ rfl rfl (Nat.le_of_ble_eq_true rfl) zd_X12_word_0.2.1.2.1 (ok_X12_appends hW h10) ?_
  refine rn_iload 5 rfl zd_X12_word_0.2.1.2.2 ?_
  obtain ⟨r11, h12, h⟩ := zbd_e h
  refine rn_callSl (As := [.long r9, .int x5]) (rest := []) zl_X12_156 zm_X12_appends ⟨by decide, by decide⟩ rfl rfl (Nat.le_of_ble_eq_true rfl) zd_X12_word_0.2.2.1.1 (ok_X12_appends hW h12) ?_
  refine rn_iload 6 rfl zd_X12_word_0.2.2.1.2 ?_
  obtain ⟨r13, h14, h⟩ := zbd_e h
  refine rn_callSl (As := [.long r11, .int x6]) (rest := []) zl_X12_156 zm_X12_appends ⟨by decide, by decide⟩ rfl rfl (Nat.le_of_ble_eq_true rfl) zd_X12_word_0.2.2.2.1 (ok_X12_appends hW h14) ?_
  cases h
  exact rn_lret zd_X12_word_0.2.2.2.2 rfl
abbrev P_X12_put_3 (G : zG) (K : zK) (R : zR) (L : zL) (a0 : Nat) (x1 : Int32) (r : Option Value) (S' : zS) (v : Int32 × zM) : Prop := Rn G mt_X12_put 3 [(0, .ref a0), (1, .int x1), (2, .int v.1)] [] (v.2, L, R, K) r S'
abbrev Q_X12_put_3 (G : zG) (K : zK) (R : zR) (L : zL) (a0 : Nat) (x1 : Int32) (r : Option Value) (S' : zS) : (zM) → Prop := (fun e => Rn G mt_X12_put 36 [] [] (e, L, R, K) r S')
def b_X12_put_3 (R : zR) (M : zM) (a0 : Nat) (x1 : Int32) (x2 : Int32) : Option ((Int32 × zM) ⊕ ((zM))) :=
  if x2 < 0 then (
    some (.inr M)
  ) else (
    zck (zin (M a0 2) 2000) <|
    zlt (zup M (R a0 1) (ztn (M a0 2)) (x1 >>> (x2 &&& 31)).toInt8.toInt32.toInt8.toInt32) fun M3 =>
    zlt (zup M3 a0 2 ((M3 a0 2) + (1 : Int32))) fun M4 =>
    some (.inl ((x2 + (-8)), M4))
  )
set_option maxRecDepth 4000 in
theorem ok_b_X12_put_3 {G : zG} {K : zK} {R : zR} {M : zM} {L : zL} (hW : zWT R K) {a0 : Nat} {x1 : Int32} {x2 : Int32} (k_a0 : K[a0]? = some (12, 61)) {r : Option Value} {S' : zS} {x : (Int32 × zM) ⊕ ((zM))} (h : b_X12_put_3 R M a0 x1 x2 = some x) (hk : Sum.elim (P_X12_put_3 G K R L a0 x1 r S') (Q_X12_put_3 G K R L a0 x1 r S') x) : P_X12_put_3 G K R L a0 x1 r S' (x2, M) := by
  show Rn G mt_X12_put 3 [(0, .ref a0), (1, .int x1), (2, .int x2)] [] (M, L, R, K) r S'
  unfold b_X12_put_3 at h
  refine rn_iload_n (q := 2) 2 rfl zd_X12_put_0.1.1.2.1 ?_
  rcases zif_e h with ⟨hc1, h⟩ | ⟨hc1, h⟩
  · refine rn_if_lt_t (tgt := 36) hc1 zd_X12_put_0.1.1.2.2 rfl ?_
    cases h
    exact rn_sub (ls' := []) [] rfl hk
  · refine rn_if_lt_f (tgt := 36) hc1 zd_X12_put_0.1.1.2.2 rfl ?_
    refine rn_aload_n (q := 0) 0 rfl zd_X12_put_0.1.2.1.1 ?_
    refine rn_getR zf_X12_13 (Or.inr ⟨_, rfl⟩) k_a0 (zx_12_1 hW k_a0) zd_X12_put_0.1.2.1.2 ?_
    refine rn_aload_n (q := 0) 0 rfl zd_X12_put_0.1.2.2.1 ?_
    refine rn_getI zf_X12_144 (Or.inl rfl) k_a0 zd_X12_put_0.1.2.2.2 ?_
    refine rn_iload_n (q := 1) 1 rfl zd_X12_put_0.2.1.1.1 ?_
    refine rn_iload_n (q := 2) 2 rfl zd_X12_put_0.2.1.1.2 ?_
    refine rn_ishr zd_X12_put_0.2.1.2.1 ?_
    refine rn_i2b zd_X12_put_0.2.1.2.2 ?_
    obtain ⟨hc2, h⟩ := zck_e h
    obtain ⟨M3, hM3, h⟩ := zlt_e h
    refine rn_bast rfl hM3 (zw_12_1 hW k_a0) hc2 zd_X12_put_0.2.2.1.1 ?_
    refine rn_aload_n (q := 0) 0 rfl zd_X12_put_0.2.2.1.2 ?_
    refine rn_dup zd_X12_put_0.2.2.2.1 rfl ?_
    refine rn_getI zf_X12_144 (Or.inl rfl) k_a0 zd_X12_put_0.2.2.2.2 ?_
    refine rn_iconst (v := 1) zd_X12_put_1.1.1 rfl ?_
    refine rn_iadd zd_X12_put_1.1.2.1 ?_
    obtain ⟨M4, hM4, h⟩ := zlt_e h
    refine rn_putI hM4 zf_X12_144 k_a0 zd_X12_put_1.1.2.2 ?_
    refine rn_iinc (v := (x2 + (-8))) (ls' := [(2, .int (x2 + (-8))), (0, .ref a0), (1, .int x1)]) 2 rfl (congrArg (fun z => x2 + z) (show Int32.ofInt (-8) = -8 by decide)) (by decide) rfl zd_X12_put_1.2.1 ?_
    refine rn_goto (tgt := 3) zd_X12_put_1.2.2.1 rfl ?_
    cases h
    exact rn_sub (ls' := [(0, .ref a0), (1, .int x1), (2, .int (x2 + (-8)))]) [1, 2, 0] rfl hk
def f_X12_put (R : zR) (M : zM) (a0 : Nat) (x1 : Int32) : Option (zM) :=
  zbd (zloop zN (fun v => b_X12_put_3 R v.2 a0 x1 v.1) ((24 : Int32), M)) fun e5 =>
  some e5
set_option maxRecDepth 4000 in
theorem ok_X12_put {G : zG} {K : zK} {R : zR} {M : zM} {L : zL} (hW : zWT R K) {a0 : Nat} {x1 : Int32} (k_a0 : K[a0]? = some (12, 61)) {M' : zM} (h : f_X12_put R M a0 x1 = some M') : Rm G mt_X12_put [.ref a0, .int x1] (M, L, R, K) none (M', L, R, K) := by
  refine rm_rn rfl rfl (Nat.le_of_ble_eq_true rfl) ?_
  show Rn G mt_X12_put 0 [(0, .ref a0), (1, .int x1)] [] (M, L, R, K) none (M', L, R, K)
  unfold f_X12_put at h
  refine rn_bipush (v := 24) zd_X12_put_0.1.1.1.1 rfl ?_
  refine rn_istore_n (q := 2) (ls' := [(2, .int (24 : Int32)), (0, .ref a0), (1, .int x1)]) (by decide) rfl zd_X12_put_0.1.1.1.2 ?_
  obtain ⟨e5, he5, h⟩ := zbd_e h
  refine rn_sub (ls' := [(0, .ref a0), (1, .int x1), (2, .int (24 : Int32))]) [1, 2, 0] rfl (zloop_ok (P := P_X12_put_3 G K R L a0 x1 none (M', L, R, K)) (Q := Q_X12_put_3 G K R L a0 x1 none (M', L, R, K)) (fun v x hx hq => ok_b_X12_put_3 hW k_a0 hx hq) _ _ _ he5 ?_)
  show Rn G mt_X12_put 36 [] [] (e5, L, R, K) none (M', L, R, K)
  cases h
  exact rn_vret zd_X12_put_1.2.2.2 rfl
def f_X12_feed (R : zR) (M : zM) (a0 : Nat) (x1 : Int32) (x2 : Int32) (x3 : Int32) (x4 : Int32) (x5 : Int32) : Option (Int32 × zM) :=
  if ((M a0 2) + (20 : Int32)) ≤ (2000 : Int32) then (
    zbd (f_X12_put R M a0 x1) fun M2 =>
    zbd (f_X12_put R M2 a0 x2) fun M4 =>
    zbd (f_X12_put R M4 a0 x3) fun M6 =>
    zbd (f_X12_put R M6 a0 x4) fun M8 =>
    zbd (f_X12_put R M8 a0 x5) fun M10 =>
    some ((M10 a0 2), M10)
  ) else (
    some ((-1 : Int32), M)
  )
set_option maxRecDepth 4000 in
theorem ok_X12_feed {G : zG} {K : zK} {R : zR} {M : zM} {L : zL} (hW : zWT R K) {a0 : Nat} {x1 : Int32} {x2 : Int32} {x3 : Int32} {x4 : Int32} {x5 : Int32} (k_a0 : K[a0]? = some (12, 61)) {r' : Int32} {M' : zM} (h : f_X12_feed R M a0 x1 x2 x3 x4 x5 = some (r', M')) : Rm G mt_X12_feed [.ref a0, .int x1, .int x2, .int x3, .int x4, .int x5] (M, L, R, K) (some (.int r')) (M', L, R, K) := by
  refine rm_rn rfl rfl (Nat.le_of_ble_eq_true rfl) ?_
  show Rn G mt_X12_feed 0 [(0, .ref a0), (1, .int x1), (2, .int x2), (3, .int x3), (4, .int x4), (5, .int x5)] [] (M, L, R, K) (some (.int r')) (M', L, R, K)
  unfold f_X12_feed at h
  refine rn_aload_n (q := 0) 0 rfl zd_X12_feed_0.1.1.1.1 ?_
  refine rn_getI zf_X12_144 (Or.inl rfl) k_a0 zd_X12_feed_0.1.1.1.2 ?_
  refine rn_bipush (v := 20) zd_X12_feed_0.1.1.2.1 rfl ?_
  refine rn_iadd zd_X12_feed_0.1.1.2.2 ?_
  refine rn_sipush (v := 2000) zd_X12_feed_0.1.2.1.1 rfl ?_
  rcases zif_e h with ⟨hc1, h⟩ | ⟨hc1, h⟩
  · refine rn_icmp_le_t (tgt := 15) hc1 zd_X12_feed_0.1.2.1.2 rfl ?_
    refine rn_aload_n (q := 0) 0 rfl zd_X12_feed_0.2.1.1.1 ?_
    refine rn_iload_n (q := 1) 1 rfl zd_X12_feed_0.2.1.1.2 ?_
    obtain ⟨M2, h3, h⟩ := zbd_e h
    refine rn_callVv (As := [.int x1]) (rest := []) zl_X12_147 zm_X12_put ⟨by decide, by decide⟩ (ci := 12) rfl rfl (by decide) k_a0 rfl rfl (Nat.le_of_ble_eq_true rfl) zd_X12_feed_0.2.1.2.1 (ok_X12_put hW k_a0 h3) ?_
    refine rn_aload_n (q := 0) 0 rfl zd_X12_feed_0.2.1.2.2 ?_
    refine rn_iload_n (q := 2) 2 rfl zd_X12_feed_0.2.2.1.1 ?_
    obtain ⟨M4, h5, h⟩ := zbd_e h
    refine rn_callVv (As := [.int x2]) (rest := []) zl_X12_147 zm_X12_put ⟨by decide, by decide⟩ (ci := 12) rfl rfl (by decide) k_a0 rfl rfl (Nat.le_of_ble_eq_true rfl) zd_X12_feed_0.2.2.1.2 (ok_X12_put hW k_a0 h5) ?_
    refine rn_aload_n (q := 0) 0 rfl zd_X12_feed_0.2.2.2.1 ?_
    refine rn_iload_n (q := 3) 3 rfl zd_X12_feed_0.2.2.2.2 ?_
    obtain ⟨M6, h7, h⟩ := zbd_e h
    refine rn_callVv (As := [.int x3]) (rest := []) zl_X12_147 zm_X12_put ⟨by decide, by decide⟩ (ci := 12) rfl rfl (by decide) k_a0 rfl rfl (Nat.le_of_ble_eq_true rfl) zd_X12_feed_1.1.1.1 (ok_X12_put hW k_a0 h7) ?_
    refine rn_aload_n (q := 0) 0 rfl zd_X12_feed_1.1.1.2 ?_
    refine rn_iload 4 rfl zd_X12_feed_1.1.2.1 ?_
    obtain ⟨M8, h9, h⟩ := zbd_e h
    refine rn_callVv (As := [.int x4]) (rest := []) zl_X12_147 zm_X12_put ⟨by decide, by decide⟩ (ci := 12) rfl rfl (by decide) k_a0 rfl rfl (Nat.le_of_ble_eq_true rfl) zd_X12_feed_1.1.2.2.1 (ok_X12_put hW k_a0 h9) ?_
    refine rn_aload_n (q := 0) 0 rfl zd_X12_feed_1.1.2.2.2 ?_
    refine rn_iload 5 rfl zd_X12_feed_1.2.1.1 ?_
    obtain ⟨M10, h11, h⟩ := zbd_e h
    refine rn_callVv (As := [.int x5]) (rest := []) zl_X12_147 zm_X12_put ⟨by decide, by decide⟩ (ci := 12) rfl rfl (by decide) k_a0 rfl rfl (Nat.le_of_ble_eq_true rfl) zd_X12_feed_1.2.1.2 (ok_X12_put hW k_a0 h11) ?_
    refine rn_aload_n (q := 0) 0 rfl zd_X12_feed_1.2.2.1 ?_
    refine rn_getI zf_X12_144 (Or.inl rfl) k_a0 zd_X12_feed_1.2.2.2.1 ?_
    cases h
    exact rn_iret zd_X12_feed_1.2.2.2.2 rfl
  · refine rn_icmp_le_f (tgt := 15) hc1 zd_X12_feed_0.1.2.1.2 rfl ?_
    refine rn_iconst (v := -1) zd_X12_feed_0.1.2.2.1 rfl ?_
    cases h
    exact rn_iret zd_X12_feed_0.1.2.2.2 rfl
def f_X12_back (M : zM) (a0 : Nat) (x1 : Int32) : Option (Int32 × zM) :=
  if x1 < 0 then (
    some ((-1 : Int32), M)
  ) else (
    if x1 ≤ (M a0 2) then (
      zlt (zup M a0 2 ((M a0 2) - x1)) fun M3 =>
      some ((M3 a0 2), M3)
    ) else (
      some ((-1 : Int32), M)
    )
  )
set_option maxRecDepth 4000 in
theorem ok_X12_back {G : zG} {K : zK} {R : zR} {M : zM} {L : zL} (hW : zWT R K) {a0 : Nat} {x1 : Int32} (k_a0 : K[a0]? = some (12, 61)) {r' : Int32} {M' : zM} (h : f_X12_back M a0 x1 = some (r', M')) : Rm G mt_X12_back [.ref a0, .int x1] (M, L, R, K) (some (.int r')) (M', L, R, K) := by
  refine rm_rn rfl rfl (Nat.le_of_ble_eq_true rfl) ?_
  show Rn G mt_X12_back 0 [(0, .ref a0), (1, .int x1)] [] (M, L, R, K) (some (.int r')) (M', L, R, K)
  unfold f_X12_back at h
  refine rn_iload_n (q := 1) 1 rfl zd_X12_back_0.1.1.1.1 ?_
  rcases zif_e h with ⟨hc1, h⟩ | ⟨hc1, h⟩
  · refine rn_if_lt_t (tgt := 12) hc1 zd_X12_back_0.1.1.1.2 rfl ?_
    refine rn_iconst (v := -1) zd_X12_back_0.1.2.2.1 rfl ?_
    cases h
    exact rn_iret zd_X12_back_0.1.2.2.2 rfl
  · refine rn_if_lt_f (tgt := 12) hc1 zd_X12_back_0.1.1.1.2 rfl ?_
    refine rn_iload_n (q := 1) 1 rfl zd_X12_back_0.1.1.2.1 ?_
    refine rn_aload_n (q := 0) 0 rfl zd_X12_back_0.1.1.2.2 ?_
    refine rn_getI zf_X12_144 (Or.inl rfl) k_a0 zd_X12_back_0.1.2.1.1 ?_
    rcases zif_e h with ⟨hc2, h⟩ | ⟨hc2, h⟩
    · refine rn_icmp_le_t (tgt := 14) hc2 zd_X12_back_0.1.2.1.2 rfl ?_
      refine rn_aload_n (q := 0) 0 rfl zd_X12_back_0.2.1.1.1 ?_
      refine rn_dup zd_X12_back_0.2.1.1.2 rfl ?_
      refine rn_getI zf_X12_144 (Or.inl rfl) k_a0 zd_X12_back_0.2.1.2.1 ?_
      refine rn_iload_n (q := 1) 1 rfl zd_X12_back_0.2.1.2.2 ?_
      refine rn_isub zd_X12_back_0.2.2.1.1 ?_
      obtain ⟨M3, hM3, h⟩ := zlt_e h
      refine rn_putI hM3 zf_X12_144 k_a0 zd_X12_back_0.2.2.1.2 ?_
      refine rn_aload_n (q := 0) 0 rfl zd_X12_back_0.2.2.2.1 ?_
      refine rn_getI zf_X12_144 (Or.inl rfl) k_a0 zd_X12_back_0.2.2.2.2 ?_
      cases h
      exact rn_iret zd_X12_back_1 rfl
    · refine rn_icmp_le_f (tgt := 14) hc2 zd_X12_back_0.1.2.1.2 rfl ?_
      refine rn_iconst (v := -1) zd_X12_back_0.1.2.2.1 rfl ?_
      cases h
      exact rn_iret zd_X12_back_0.1.2.2.2 rfl
def f_X12_byteAt (R : zR) (M : zM) (a0 : Nat) (x1 : Int32) : Option (Int32) :=
  if (M a0 4) ≤ x1 then (
    some (0 : Int32)
  ) else (
    zck (zin x1 2000) <|
    some ((M (R a0 3) (ztn x1)) &&& (255 : Int32))
  )
set_option maxRecDepth 4000 in
theorem ok_X12_byteAt {G : zG} {K : zK} {R : zR} {M : zM} {L : zL} (hW : zWT R K) {a0 : Nat} {x1 : Int32} (k_a0 : K[a0]? = some (12, 61)) {r' : Int32} (h : f_X12_byteAt R M a0 x1 = some r') : Rm G mt_X12_byteAt [.ref a0, .int x1] (M, L, R, K) (some (.int r')) (M, L, R, K) := by
  refine rm_rn rfl rfl (Nat.le_of_ble_eq_true rfl) ?_
  show Rn G mt_X12_byteAt 0 [(0, .ref a0), (1, .int x1)] [] (M, L, R, K) (some (.int r')) (M, L, R, K)
  unfold f_X12_byteAt at h
  refine rn_iload_n (q := 1) 1 rfl zd_X12_byteAt_0.1.1.1 ?_
  refine rn_aload_n (q := 0) 0 rfl zd_X12_byteAt_0.1.1.2.1 ?_
  refine rn_getI zf_X12_151 (Or.inl rfl) k_a0 zd_X12_byteAt_0.1.1.2.2 ?_
  rcases zif_e h with ⟨hc1, h⟩ | ⟨hc1, h⟩
  · refine rn_icmp_ge_t (tgt := 21) hc1 zd_X12_byteAt_0.1.2.1 rfl ?_
    refine rn_iconst (v := 0) zd_X12_byteAt_0.2.2.2.1 rfl ?_
    cases h
    exact rn_iret zd_X12_byteAt_0.2.2.2.2 rfl
  · refine rn_icmp_ge_f (tgt := 21) hc1 zd_X12_byteAt_0.1.2.1 rfl ?_
    refine rn_aload_n (q := 0) 0 rfl zd_X12_byteAt_0.1.2.2.1 ?_
    refine rn_getR zf_X12_17 (Or.inr ⟨_, rfl⟩) k_a0 (zx_12_3 hW k_a0) zd_X12_byteAt_0.1.2.2.2 ?_
    refine rn_iload_n (q := 1) 1 rfl zd_X12_byteAt_0.2.1.1 ?_
    obtain ⟨hc2, h⟩ := zck_e h
    refine rn_bald (zw_12_3 hW k_a0) hc2 zd_X12_byteAt_0.2.1.2.1 ?_
    refine rn_sipush (v := 255) zd_X12_byteAt_0.2.1.2.2 rfl ?_
    refine rn_iand zd_X12_byteAt_0.2.2.1.1 ?_
    refine rn_goto (tgt := 22) zd_X12_byteAt_0.2.2.1.2 rfl ?_
    cases h
    exact rn_iret zd_X12_byteAt_0.2.2.2.2 rfl
def f_X12_isDigit (x0 : Int32) : Option (Int32) :=
  if x0 < (48 : Int32) then (
    some (0 : Int32)
  ) else (
    if (57 : Int32) < x0 then (
      some (0 : Int32)
    ) else (
      some (1 : Int32)
    )
  )
set_option maxRecDepth 4000 in
theorem ok_X12_isDigit {G : zG} {K : zK} {R : zR} {M : zM} {L : zL} (hW : zWT R K) {x0 : Int32} {r' : Int32} (h : f_X12_isDigit x0 = some r') : Rm G mt_X12_isDigit [.int x0] (M, L, R, K) (some (.int r')) (M, L, R, K) := by
  refine rm_rn rfl rfl (Nat.le_of_ble_eq_true rfl) ?_
  show Rn G mt_X12_isDigit 0 [(0, .int x0)] [] (M, L, R, K) (some (.int r')) (M, L, R, K)
  unfold f_X12_isDigit at h
  refine rn_iload_n (q := 0) 0 rfl zd_X12_isDigit_0.1.1.1 ?_
  refine rn_bipush (v := 48) zd_X12_isDigit_0.1.1.2 rfl ?_
  rcases zif_e h with ⟨hc1, h⟩ | ⟨hc1, h⟩
  · refine rn_icmp_lt_t (tgt := 16) hc1 zd_X12_isDigit_0.1.2.1 rfl ?_
    refine rn_iconst (v := 0) zd_X12_isDigit_0.2.2.2.1 rfl ?_
    cases h
    exact rn_zret zd_X12_isDigit_0.2.2.2.2 rfl rfl
  · refine rn_icmp_lt_f (tgt := 16) hc1 zd_X12_isDigit_0.1.2.1 rfl ?_
    refine rn_iload_n (q := 0) 0 rfl zd_X12_isDigit_0.1.2.2.1 ?_
    refine rn_bipush (v := 57) zd_X12_isDigit_0.1.2.2.2 rfl ?_
    rcases zif_e h with ⟨hc2, h⟩ | ⟨hc2, h⟩
    · refine rn_icmp_gt_t (tgt := 16) hc2 zd_X12_isDigit_0.2.1.1 rfl ?_
      refine rn_iconst (v := 0) zd_X12_isDigit_0.2.2.2.1 rfl ?_
      cases h
      exact rn_zret zd_X12_isDigit_0.2.2.2.2 rfl rfl
    · refine rn_icmp_gt_f (tgt := 16) hc2 zd_X12_isDigit_0.2.1.1 rfl ?_
      refine rn_iconst (v := 1) zd_X12_isDigit_0.2.1.2 rfl ?_
      refine rn_goto (tgt := 17) zd_X12_isDigit_0.2.2.1 rfl ?_
      cases h
      exact rn_zret zd_X12_isDigit_0.2.2.2.2 rfl rfl
def f_X12_isLetter (x0 : Int32) : Option (Int32) :=
  if x0 < (97 : Int32) then (
    some (0 : Int32)
  ) else (
    if (122 : Int32) < x0 then (
      some (0 : Int32)
    ) else (
      some (1 : Int32)
    )
  )
set_option maxRecDepth 4000 in
theorem ok_X12_isLetter {G : zG} {K : zK} {R : zR} {M : zM} {L : zL} (hW : zWT R K) {x0 : Int32} {r' : Int32} (h : f_X12_isLetter x0 = some r') : Rm G mt_X12_isLetter [.int x0] (M, L, R, K) (some (.int r')) (M, L, R, K) := by
  refine rm_rn rfl rfl (Nat.le_of_ble_eq_true rfl) ?_
  show Rn G mt_X12_isLetter 0 [(0, .int x0)] [] (M, L, R, K) (some (.int r')) (M, L, R, K)
  unfold f_X12_isLetter at h
  refine rn_iload_n (q := 0) 0 rfl zd_X12_isLetter_0.1.1.1 ?_
  refine rn_bipush (v := 97) zd_X12_isLetter_0.1.1.2 rfl ?_
  rcases zif_e h with ⟨hc1, h⟩ | ⟨hc1, h⟩
  · refine rn_icmp_lt_t (tgt := 16) hc1 zd_X12_isLetter_0.1.2.1 rfl ?_
    refine rn_iconst (v := 0) zd_X12_isLetter_0.2.2.2.1 rfl ?_
    cases h
    exact rn_zret zd_X12_isLetter_0.2.2.2.2 rfl rfl
  · refine rn_icmp_lt_f (tgt := 16) hc1 zd_X12_isLetter_0.1.2.1 rfl ?_
    refine rn_iload_n (q := 0) 0 rfl zd_X12_isLetter_0.1.2.2.1 ?_
    refine rn_bipush (v := 122) zd_X12_isLetter_0.1.2.2.2 rfl ?_
    rcases zif_e h with ⟨hc2, h⟩ | ⟨hc2, h⟩
    · refine rn_icmp_gt_t (tgt := 16) hc2 zd_X12_isLetter_0.2.1.1 rfl ?_
      refine rn_iconst (v := 0) zd_X12_isLetter_0.2.2.2.1 rfl ?_
      cases h
      exact rn_zret zd_X12_isLetter_0.2.2.2.2 rfl rfl
    · refine rn_icmp_gt_f (tgt := 16) hc2 zd_X12_isLetter_0.2.1.1 rfl ?_
      refine rn_iconst (v := 1) zd_X12_isLetter_0.2.1.2 rfl ?_
      refine rn_goto (tgt := 17) zd_X12_isLetter_0.2.2.1 rfl ?_
      cases h
      exact rn_zret zd_X12_isLetter_0.2.2.2.2 rfl rfl
def f_X12_token (R : zR) (M : zM) (L : zL) (a0 : Nat) (x1 : Int32) (x2 : Int32) (x3 : Int32) (y4 : Int64) : Option (zM × zL) :=
  zck (zin (M a0 10) 403) <|
  zlt (zup M (R a0 5) (ztn (M a0 10)) x1) fun M2 =>
  zck (zin (M2 a0 10) 403) <|
  zlt (zup M2 (R a0 6) (ztn (M2 a0 10)) x2) fun M4 =>
  zck (zin (M4 a0 10) 403) <|
  zlt (zup M4 (R a0 7) (ztn (M4 a0 10)) x3) fun M6 =>
  zck (zin (M6 a0 10) 403) <|
  zlt (zupL L (R a0 8) (ztn (M6 a0 10)) y4) fun L8 =>
  zlt (zup M6 a0 10 ((M6 a0 10) + (1 : Int32))) fun M9 =>
  some (M9, L8)
set_option maxRecDepth 4000 in
theorem ok_X12_token {G : zG} {K : zK} {R : zR} {M : zM} {L : zL} (hW : zWT R K) {a0 : Nat} {x1 : Int32} {x2 : Int32} {x3 : Int32} {y4 : Int64} (k_a0 : K[a0]? = some (12, 61)) {M' : zM} {L' : zL} (h : f_X12_token R M L a0 x1 x2 x3 y4 = some (M', L')) : Rm G mt_X12_token [.ref a0, .int x1, .int x2, .int x3, .long y4] (M, L, R, K) none (M', L', R, K) := by
  refine rm_rn rfl rfl (Nat.le_of_ble_eq_true rfl) ?_
  show Rn G mt_X12_token 0 [(0, .ref a0), (1, .int x1), (2, .int x2), (3, .int x3), (4, .long y4)] [] (M, L, R, K) none (M', L', R, K)
  unfold f_X12_token at h
  refine rn_aload_n (q := 0) 0 rfl zd_X12_token_0.1.1.1.1 ?_
  refine rn_getR zf_X12_20 (Or.inr ⟨_, rfl⟩) k_a0 (zx_12_5 hW k_a0) zd_X12_token_0.1.1.1.2 ?_
  refine rn_aload_n (q := 0) 0 rfl zd_X12_token_0.1.1.2.1 ?_
  refine rn_getI zf_X12_160 (Or.inl rfl) k_a0 zd_X12_token_0.1.1.2.2 ?_
  refine rn_iload_n (q := 1) 1 rfl zd_X12_token_0.1.2.1.1 ?_
  obtain ⟨hc1, h⟩ := zck_e h
  obtain ⟨M2, hM2, h⟩ := zlt_e h
  refine rn_iast hM2 (zw_12_5 hW k_a0) hc1 zd_X12_token_0.1.2.1.2 ?_
  refine rn_aload_n (q := 0) 0 rfl zd_X12_token_0.1.2.2.1 ?_
  refine rn_getR zf_X12_24 (Or.inr ⟨_, rfl⟩) k_a0 (zx_12_6 hW k_a0) zd_X12_token_0.1.2.2.2 ?_
  refine rn_aload_n (q := 0) 0 rfl zd_X12_token_0.2.1.1.1 ?_
  refine rn_getI zf_X12_160 (Or.inl rfl) k_a0 zd_X12_token_0.2.1.1.2 ?_
  refine rn_iload_n (q := 2) 2 rfl zd_X12_token_0.2.1.2.1 ?_
  obtain ⟨hc3, h⟩ := zck_e h
  obtain ⟨M4, hM4, h⟩ := zlt_e h
  refine rn_iast hM4 (zw_12_6 hW k_a0) hc3 zd_X12_token_0.2.1.2.2 ?_
  refine rn_aload_n (q := 0) 0 rfl zd_X12_token_0.2.2.1.1 ?_
  refine rn_getR zf_X12_27 (Or.inr ⟨_, rfl⟩) k_a0 (zx_12_7 hW k_a0) zd_X12_token_0.2.2.1.2 ?_
  refine rn_aload_n (q := 0) 0 rfl zd_X12_token_0.2.2.2.1 ?_
  refine rn_getI zf_X12_160 (Or.inl rfl) k_a0 zd_X12_token_0.2.2.2.2 ?_
  refine rn_iload_n (q := 3) 3 rfl zd_X12_token_1.1.1.1 ?_
  obtain ⟨hc5, h⟩ := zck_e h
  obtain ⟨M6, hM6, h⟩ := zlt_e h
  refine rn_iast hM6 (zw_12_7 hW k_a0) hc5 zd_X12_token_1.1.1.2.1 ?_
  refine rn_aload_n (q := 0) 0 rfl zd_X12_token_1.1.1.2.2 ?_
  refine rn_getR zf_X12_30 (Or.inr ⟨_, rfl⟩) k_a0 (zx_12_8 hW k_a0) zd_X12_token_1.1.2.1.1 ?_
  refine rn_aload_n (q := 0) 0 rfl zd_X12_token_1.1.2.1.2 ?_
  refine rn_getI zf_X12_160 (Or.inl rfl) k_a0 zd_X12_token_1.1.2.2.1 ?_
  refine rn_lload 4 rfl zd_X12_token_1.1.2.2.2 ?_
  obtain ⟨hc7, h⟩ := zck_e h
  obtain ⟨L8, hL8, h⟩ := zlt_e h
  refine rn_last hL8 (zw_12_8 hW k_a0) hc7 zd_X12_token_1.2.1.1.1 ?_
  refine rn_aload_n (q := 0) 0 rfl zd_X12_token_1.2.1.1.2 ?_
  refine rn_dup zd_X12_token_1.2.1.2.1 rfl ?_
  refine rn_getI zf_X12_160 (Or.inl rfl) k_a0 zd_X12_token_1.2.1.2.2 ?_
  refine rn_iconst (v := 1) zd_X12_token_1.2.2.1.1 rfl ?_
  refine rn_iadd zd_X12_token_1.2.2.1.2 ?_
  obtain ⟨M9, hM9, h⟩ := zlt_e h
  refine rn_putI hM9 zf_X12_160 k_a0 zd_X12_token_1.2.2.2.1 ?_
  cases h
  exact rn_vret zd_X12_token_1.2.2.2.2 rfl
def j_X12_sign_95 (R : zR) (M : zM) (L : zL) (a0 : Nat) (x1 : Int32) (x4 : Int32) : Option (Int32 × zM × zL) :=
  zbd2 (f_X12_token R M L a0 x4 x1 (0 : Int32) (0 : Int64)) fun M10 L11 =>
  some ((1 : Int32), M10, L11)
set_option maxRecDepth 4000 in
theorem ok_j_X12_sign_95 {G : zG} {K : zK} {R : zR} {M : zM} {L : zL} (hW : zWT R K) {a0 : Nat} {x1 : Int32} {x4 : Int32} (k_a0 : K[a0]? = some (12, 61)) {r' : Int32} {M' : zM} {L' : zL} (h : j_X12_sign_95 R M L a0 x1 x4 = some (r', M', L')) : Rn G mt_X12_sign 95 [(0, .ref a0), (1, .int x1), (4, .int x4)] [] (M, L, R, K) (some (.int r')) (M', L', R, K) := by
  unfold j_X12_sign_95 at h
  refine rn_aload_n (q := 0) 0 rfl zd_X12_sign_2.2.2.2.2 ?_
  refine rn_iload 2 rfl zd_X12_sign_3.1.1 ?_
  refine rn_iload_n (q := 1) 1 rfl zd_X12_sign_3.1.2.1 ?_
  refine rn_iconst (v := 0) zd_X12_sign_3.1.2.2 rfl ?_
  refine rn_lconst (v := 0) zd_X12_sign_3.2.1.1 rfl ?_
  obtain ⟨M10, L11, h12, h⟩ := zbd2_e h
  refine rn_callVv (As := [.int x4, .int x1, .int (0 : Int32), .long (0 : Int64)]) (rest := []) zl_X12_167 zm_X12_token ⟨by decide, by decide⟩ (ci := 12) rfl rfl (by decide) k_a0 rfl rfl (Nat.le_of_ble_eq_true rfl) zd_X12_sign_3.2.1.2 (ok_X12_token hW k_a0 h12) ?_
  refine rn_iconst (v := 1) zd_X12_sign_3.2.2.1 rfl ?_
  cases h
  exact rn_iret zd_X12_sign_3.2.2.2 rfl
def j_X12_sign_85 (R : zR) (M : zM) (L : zL) (a0 : Nat) (x1 : Int32) (x2 : Int32) (x4 : Int32) : Option (Int32 × zM × zL) :=
  if x2 = (60 : Int32) then (
    j_X12_sign_95 R M L a0 x1 (13 : Int32)
  ) else (
    j_X12_sign_95 R M L a0 x1 x4
  )
set_option maxRecDepth 4000 in
theorem ok_j_X12_sign_85 {G : zG} {K : zK} {R : zR} {M : zM} {L : zL} (hW : zWT R K) {a0 : Nat} {x1 : Int32} {x2 : Int32} {x4 : Int32} (k_a0 : K[a0]? = some (12, 61)) {r' : Int32} {M' : zM} {L' : zL} (h : j_X12_sign_85 R M L a0 x1 x2 x4 = some (r', M', L')) : Rn G mt_X12_sign 85 [(0, .ref a0), (1, .int x1), (2, .int x2), (4, .int x4)] [] (M, L, R, K) (some (.int r')) (M', L', R, K) := by
  unfold j_X12_sign_85 at h
  refine rn_iload_n (q := 2) 2 rfl zd_X12_sign_2.2.1.2.1 ?_
  refine rn_bipush (v := 60) zd_X12_sign_2.2.1.2.2 rfl ?_
  rcases zif_e h with ⟨hc9, h⟩ | ⟨hc9, h⟩
  · refine rn_icmp_ne_f (tgt := 95) hc9 zd_X12_sign_2.2.2.1.1 rfl ?_
    refine rn_bipush (v := 13) zd_X12_sign_2.2.2.1.2 rfl ?_
    refine rn_istore (ls' := [(4, .int (13 : Int32)), (0, .ref a0), (1, .int x1), (2, .int x2)]) (by decide) rfl zd_X12_sign_2.2.2.2.1 ?_
    exact rn_sub (ls' := [(0, .ref a0), (1, .int x1), (4, .int (13 : Int32))]) [1, 2, 0] rfl (ok_j_X12_sign_95 hW k_a0 h)
  · refine rn_icmp_ne_t (tgt := 95) hc9 zd_X12_sign_2.2.2.1.1 rfl ?_
    exact rn_sub (ls' := [(0, .ref a0), (1, .int x1), (4, .int x4)]) [0, 1, 3] rfl (ok_j_X12_sign_95 hW k_a0 h)
def j_X12_sign_75 (R : zR) (M : zM) (L : zL) (a0 : Nat) (x1 : Int32) (x2 : Int32) (x4 : Int32) : Option (Int32 × zM × zL) :=
  if x2 = (47 : Int32) then (
    j_X12_sign_85 R M L a0 x1 x2 (15 : Int32)
  ) else (
    j_X12_sign_85 R M L a0 x1 x2 x4
  )
set_option maxRecDepth 4000 in
theorem ok_j_X12_sign_75 {G : zG} {K : zK} {R : zR} {M : zM} {L : zL} (hW : zWT R K) {a0 : Nat} {x1 : Int32} {x2 : Int32} {x4 : Int32} (k_a0 : K[a0]? = some (12, 61)) {r' : Int32} {M' : zM} {L' : zL} (h : j_X12_sign_75 R M L a0 x1 x2 x4 = some (r', M', L')) : Rn G mt_X12_sign 75 [(0, .ref a0), (1, .int x1), (2, .int x2), (4, .int x4)] [] (M, L, R, K) (some (.int r')) (M', L', R, K) := by
  unfold j_X12_sign_75 at h
  refine rn_iload_n (q := 2) 2 rfl zd_X12_sign_2.1.2.1.2 ?_
  refine rn_bipush (v := 47) zd_X12_sign_2.1.2.2.1 rfl ?_
  rcases zif_e h with ⟨hc8, h⟩ | ⟨hc8, h⟩
  · refine rn_icmp_ne_f (tgt := 85) hc8 zd_X12_sign_2.1.2.2.2 rfl ?_
    refine rn_bipush (v := 15) zd_X12_sign_2.2.1.1.1 rfl ?_
    refine rn_istore (ls' := [(4, .int (15 : Int32)), (0, .ref a0), (1, .int x1), (2, .int x2)]) (by decide) rfl zd_X12_sign_2.2.1.1.2 ?_
    exact rn_sub (ls' := [(0, .ref a0), (1, .int x1), (2, .int x2), (4, .int (15 : Int32))]) [1, 2, 3, 0] rfl (ok_j_X12_sign_85 hW k_a0 h)
  · refine rn_icmp_ne_t (tgt := 85) hc8 zd_X12_sign_2.1.2.2.2 rfl ?_
    exact rn_sub (ls' := [(0, .ref a0), (1, .int x1), (2, .int x2), (4, .int x4)]) [0, 1, 2, 3] rfl (ok_j_X12_sign_85 hW k_a0 h)
def j_X12_sign_65 (R : zR) (M : zM) (L : zL) (a0 : Nat) (x1 : Int32) (x2 : Int32) (x4 : Int32) : Option (Int32 × zM × zL) :=
  if x2 = (42 : Int32) then (
    j_X12_sign_75 R M L a0 x1 x2 (10 : Int32)
  ) else (
    j_X12_sign_75 R M L a0 x1 x2 x4
  )
set_option maxRecDepth 4000 in
theorem ok_j_X12_sign_65 {G : zG} {K : zK} {R : zR} {M : zM} {L : zL} (hW : zWT R K) {a0 : Nat} {x1 : Int32} {x2 : Int32} {x4 : Int32} (k_a0 : K[a0]? = some (12, 61)) {r' : Int32} {M' : zM} {L' : zL} (h : j_X12_sign_65 R M L a0 x1 x2 x4 = some (r', M', L')) : Rn G mt_X12_sign 65 [(0, .ref a0), (1, .int x1), (2, .int x2), (4, .int x4)] [] (M, L, R, K) (some (.int r')) (M', L', R, K) := by
  unfold j_X12_sign_65 at h
  refine rn_iload_n (q := 2) 2 rfl zd_X12_sign_2.1.1.1.1 ?_
  refine rn_bipush (v := 42) zd_X12_sign_2.1.1.1.2 rfl ?_
  rcases zif_e h with ⟨hc7, h⟩ | ⟨hc7, h⟩
  · refine rn_icmp_ne_f (tgt := 75) hc7 zd_X12_sign_2.1.1.2.1 rfl ?_
    refine rn_bipush (v := 10) zd_X12_sign_2.1.1.2.2 rfl ?_
    refine rn_istore (ls' := [(4, .int (10 : Int32)), (0, .ref a0), (1, .int x1), (2, .int x2)]) (by decide) rfl zd_X12_sign_2.1.2.1.1 ?_
    exact rn_sub (ls' := [(0, .ref a0), (1, .int x1), (2, .int x2), (4, .int (10 : Int32))]) [1, 2, 3, 0] rfl (ok_j_X12_sign_75 hW k_a0 h)
  · refine rn_icmp_ne_t (tgt := 75) hc7 zd_X12_sign_2.1.1.2.1 rfl ?_
    exact rn_sub (ls' := [(0, .ref a0), (1, .int x1), (2, .int x2), (4, .int x4)]) [0, 1, 2, 3] rfl (ok_j_X12_sign_75 hW k_a0 h)
def j_X12_sign_55 (R : zR) (M : zM) (L : zL) (a0 : Nat) (x1 : Int32) (x2 : Int32) (x4 : Int32) : Option (Int32 × zM × zL) :=
  if x2 = (45 : Int32) then (
    j_X12_sign_65 R M L a0 x1 x2 (9 : Int32)
  ) else (
    j_X12_sign_65 R M L a0 x1 x2 x4
  )
set_option maxRecDepth 4000 in
theorem ok_j_X12_sign_55 {G : zG} {K : zK} {R : zR} {M : zM} {L : zL} (hW : zWT R K) {a0 : Nat} {x1 : Int32} {x2 : Int32} {x4 : Int32} (k_a0 : K[a0]? = some (12, 61)) {r' : Int32} {M' : zM} {L' : zL} (h : j_X12_sign_55 R M L a0 x1 x2 x4 = some (r', M', L')) : Rn G mt_X12_sign 55 [(0, .ref a0), (1, .int x1), (2, .int x2), (4, .int x4)] [] (M, L, R, K) (some (.int r')) (M', L', R, K) := by
  unfold j_X12_sign_55 at h
  refine rn_iload_n (q := 2) 2 rfl zd_X12_sign_1.2.1.2.2 ?_
  refine rn_bipush (v := 45) zd_X12_sign_1.2.2.1.1 rfl ?_
  rcases zif_e h with ⟨hc6, h⟩ | ⟨hc6, h⟩
  · refine rn_icmp_ne_f (tgt := 65) hc6 zd_X12_sign_1.2.2.1.2 rfl ?_
    refine rn_bipush (v := 9) zd_X12_sign_1.2.2.2.1 rfl ?_
    refine rn_istore (ls' := [(4, .int (9 : Int32)), (0, .ref a0), (1, .int x1), (2, .int x2)]) (by decide) rfl zd_X12_sign_1.2.2.2.2 ?_
    exact rn_sub (ls' := [(0, .ref a0), (1, .int x1), (2, .int x2), (4, .int (9 : Int32))]) [1, 2, 3, 0] rfl (ok_j_X12_sign_65 hW k_a0 h)
  · refine rn_icmp_ne_t (tgt := 65) hc6 zd_X12_sign_1.2.2.1.2 rfl ?_
    exact rn_sub (ls' := [(0, .ref a0), (1, .int x1), (2, .int x2), (4, .int x4)]) [0, 1, 2, 3] rfl (ok_j_X12_sign_65 hW k_a0 h)
def j_X12_sign_43 (R : zR) (M : zM) (L : zL) (a0 : Nat) (x1 : Int32) (x2 : Int32) (s0 : Int32) : Option (Int32 × zM × zL) :=
  if x2 = (43 : Int32) then (
    j_X12_sign_55 R M L a0 x1 x2 (8 : Int32)
  ) else (
    j_X12_sign_55 R M L a0 x1 x2 s0
  )
set_option maxRecDepth 4000 in
theorem ok_j_X12_sign_43 {G : zG} {K : zK} {R : zR} {M : zM} {L : zL} (hW : zWT R K) {a0 : Nat} {x1 : Int32} {x2 : Int32} {s0 : Int32} (k_a0 : K[a0]? = some (12, 61)) {r' : Int32} {M' : zM} {L' : zL} (h : j_X12_sign_43 R M L a0 x1 x2 s0 = some (r', M', L')) : Rn G mt_X12_sign 43 [(0, .ref a0), (1, .int x1), (2, .int x2)] [.int s0] (M, L, R, K) (some (.int r')) (M', L', R, K) := by
  unfold j_X12_sign_43 at h
  refine rn_istore (ls' := [(4, .int s0), (0, .ref a0), (1, .int x1), (2, .int x2)]) (by decide) rfl zd_X12_sign_1.1.2.1.2 ?_
  refine rn_iload_n (q := 2) 3 rfl zd_X12_sign_1.1.2.2.1 ?_
  refine rn_bipush (v := 43) zd_X12_sign_1.1.2.2.2 rfl ?_
  rcases zif_e h with ⟨hc5, h⟩ | ⟨hc5, h⟩
  · refine rn_icmp_ne_f (tgt := 55) hc5 zd_X12_sign_1.2.1.1.1 rfl ?_
    refine rn_bipush (v := 8) zd_X12_sign_1.2.1.1.2 rfl ?_
    refine rn_istore (ls' := [(4, .int (8 : Int32)), (0, .ref a0), (1, .int x1), (2, .int x2)]) (by decide) rfl zd_X12_sign_1.2.1.2.1 ?_
    exact rn_sub (ls' := [(0, .ref a0), (1, .int x1), (2, .int x2), (4, .int (8 : Int32))]) [1, 2, 3, 0] rfl (ok_j_X12_sign_55 hW k_a0 h)
  · refine rn_icmp_ne_t (tgt := 55) hc5 zd_X12_sign_1.2.1.1.1 rfl ?_
    exact rn_sub (ls' := [(0, .ref a0), (1, .int x1), (2, .int x2), (4, .int s0)]) [1, 2, 3, 0] rfl (ok_j_X12_sign_55 hW k_a0 h)
def f_X12_sign (R : zR) (M : zM) (L : zL) (a0 : Nat) (x1 : Int32) (x2 : Int32) (x3 : Int32) : Option (Int32 × zM × zL) :=
  if x2 = (59 : Int32) then (
    j_X12_sign_43 R M L a0 x1 x2 (4 : Int32)
  ) else (
    if x2 = (61 : Int32) then (
      j_X12_sign_43 R M L a0 x1 x2 (5 : Int32)
    ) else (
      if x2 = (40 : Int32) then (
        j_X12_sign_43 R M L a0 x1 x2 (6 : Int32)
      ) else (
        if x2 = (41 : Int32) then (
          j_X12_sign_43 R M L a0 x1 x2 (7 : Int32)
        ) else (
          j_X12_sign_43 R M L a0 x1 x2 (3 : Int32)
        )
      )
    )
  )
set_option maxRecDepth 4000 in
theorem ok_X12_sign {G : zG} {K : zK} {R : zR} {M : zM} {L : zL} (hW : zWT R K) {a0 : Nat} {x1 : Int32} {x2 : Int32} {x3 : Int32} (k_a0 : K[a0]? = some (12, 61)) {r' : Int32} {M' : zM} {L' : zL} (h : f_X12_sign R M L a0 x1 x2 x3 = some (r', M', L')) : Rm G mt_X12_sign [.ref a0, .int x1, .int x2, .int x3] (M, L, R, K) (some (.int r')) (M', L', R, K) := by
  refine rm_rn rfl rfl (Nat.le_of_ble_eq_true rfl) ?_
  show Rn G mt_X12_sign 0 [(0, .ref a0), (1, .int x1), (2, .int x2), (3, .int x3)] [] (M, L, R, K) (some (.int r')) (M', L', R, K)
  unfold f_X12_sign at h
  refine rn_iload_n (q := 2) 2 rfl zd_X12_sign_0.1.1.1.1 ?_
  refine rn_bipush (v := 59) zd_X12_sign_0.1.1.1.2 rfl ?_
  rcases zif_e h with ⟨hc1, h⟩ | ⟨hc1, h⟩
  · refine rn_icmp_ne_f (tgt := 10) hc1 zd_X12_sign_0.1.1.2.1 rfl ?_
    refine rn_iconst (v := 4) zd_X12_sign_0.1.1.2.2 rfl ?_
    refine rn_goto (tgt := 43) zd_X12_sign_0.1.2.1.1 rfl ?_
    exact rn_sub (ls' := [(0, .ref a0), (1, .int x1), (2, .int x2)]) [0, 1, 2] rfl (ok_j_X12_sign_43 hW k_a0 h)
  · refine rn_icmp_ne_t (tgt := 10) hc1 zd_X12_sign_0.1.1.2.1 rfl ?_
    refine rn_iload_n (q := 2) 2 rfl zd_X12_sign_0.1.2.1.2 ?_
    refine rn_bipush (v := 61) zd_X12_sign_0.1.2.2.1 rfl ?_
    rcases zif_e h with ⟨hc2, h⟩ | ⟨hc2, h⟩
    · refine rn_icmp_ne_f (tgt := 20) hc2 zd_X12_sign_0.1.2.2.2 rfl ?_
      refine rn_iconst (v := 5) zd_X12_sign_0.2.1.1.1 rfl ?_
      refine rn_goto (tgt := 43) zd_X12_sign_0.2.1.1.2 rfl ?_
      exact rn_sub (ls' := [(0, .ref a0), (1, .int x1), (2, .int x2)]) [0, 1, 2] rfl (ok_j_X12_sign_43 hW k_a0 h)
    · refine rn_icmp_ne_t (tgt := 20) hc2 zd_X12_sign_0.1.2.2.2 rfl ?_
      refine rn_iload_n (q := 2) 2 rfl zd_X12_sign_0.2.1.2.1 ?_
      refine rn_bipush (v := 40) zd_X12_sign_0.2.1.2.2 rfl ?_
      rcases zif_e h with ⟨hc3, h⟩ | ⟨hc3, h⟩
      · refine rn_icmp_ne_f (tgt := 31) hc3 zd_X12_sign_0.2.2.1.1 rfl ?_
        refine rn_bipush (v := 6) zd_X12_sign_0.2.2.1.2 rfl ?_
        refine rn_goto (tgt := 43) zd_X12_sign_0.2.2.2.1 rfl ?_
        exact rn_sub (ls' := [(0, .ref a0), (1, .int x1), (2, .int x2)]) [0, 1, 2] rfl (ok_j_X12_sign_43 hW k_a0 h)
      · refine rn_icmp_ne_t (tgt := 31) hc3 zd_X12_sign_0.2.2.1.1 rfl ?_
        refine rn_iload_n (q := 2) 2 rfl zd_X12_sign_0.2.2.2.2 ?_
        refine rn_bipush (v := 41) zd_X12_sign_1.1.1.1.1 rfl ?_
        rcases zif_e h with ⟨hc4, h⟩ | ⟨hc4, h⟩
        · refine rn_icmp_ne_f (tgt := 42) hc4 zd_X12_sign_1.1.1.1.2 rfl ?_
          refine rn_bipush (v := 7) zd_X12_sign_1.1.1.2.1 rfl ?_
          refine rn_goto (tgt := 43) zd_X12_sign_1.1.1.2.2 rfl ?_
          exact rn_sub (ls' := [(0, .ref a0), (1, .int x1), (2, .int x2)]) [0, 1, 2] rfl (ok_j_X12_sign_43 hW k_a0 h)
        · refine rn_icmp_ne_t (tgt := 42) hc4 zd_X12_sign_1.1.1.1.2 rfl ?_
          refine rn_iconst (v := 3) zd_X12_sign_1.1.2.1.1 rfl ?_
          exact rn_sub (ls' := [(0, .ref a0), (1, .int x1), (2, .int x2)]) [0, 1, 2] rfl (ok_j_X12_sign_43 hW k_a0 h)
abbrev P_X12_cut_7 (G : zG) (K : zK) (R : zR) (a0 : Nat) (r : Option Value) (S' : zS) (v : Int32 × zM × zL) : Prop := Rn G mt_X12_cut 7 [(0, .ref a0), (1, .int v.1)] [] (v.2.1, v.2.2, R, K) r S'
abbrev Q_X12_cut_7 (G : zG) (K : zK) (R : zR) (a0 : Nat) (r : Option Value) (S' : zS) : (zM × zL) ⊕ (zM × zL) → Prop := (Sum.elim (fun e => Rn G mt_X12_cut 31 [(0, .ref a0)] [] (e.1, e.2, R, K) r S') (fun e => Rn G mt_X12_cut 294 [] [] (e.1, e.2, R, K) r S'))
abbrev P_X12_cut_208 (G : zG) (K : zK) (R : zR) (M : zM) (L : zL) (a0 : Nat) (x1 : Int32) (r : Option Value) (S' : zS) (v : Int32 × Int32) : Prop := Rn G mt_X12_cut 208 [(0, .ref a0), (1, .int x1), (3, .int v.1), (4, .int v.2)] [] (M, L, R, K) r S'
abbrev Q_X12_cut_208 (G : zG) (K : zK) (R : zR) (M : zM) (L : zL) (a0 : Nat) (x1 : Int32) (r : Option Value) (S' : zS) : (Int32 × Int32) → Prop := (fun e => Rn G mt_X12_cut 250 [(0, .ref a0), (1, .int x1), (3, .int e.1), (4, .int e.2)] [] (M, L, R, K) r S')
def b_X12_cut_208 (R : zR) (M : zM) (L : zL) (a0 : Nat) (x1 : Int32) (x3 : Int32) (x4 : Int32) : Option ((Int32 × Int32) ⊕ ((Int32 × Int32))) :=
  zbd (f_X12_byteAt R M a0 (x1 + x3)) fun r22 =>
  zbd (f_X12_isDigit r22) fun r24 =>
  if r24 = 0 then (
    some (.inr (x3, x4))
  ) else (
    if (4 : Int32) ≤ x3 then (
      some (.inl ((x3 + 1), x4))
    ) else (
      zbd (f_X12_byteAt R M a0 (x1 + x3)) fun r28 =>
      some (.inl ((x3 + 1), ((((10 : Int32) * x4) + r28) - (48 : Int32))))
    )
  )
set_option maxRecDepth 4000 in
theorem ok_b_X12_cut_208 {G : zG} {K : zK} {R : zR} {M : zM} {L : zL} (hW : zWT R K) {a0 : Nat} {x1 : Int32} {x3 : Int32} {x4 : Int32} (k_a0 : K[a0]? = some (12, 61)) {r : Option Value} {S' : zS} {x : (Int32 × Int32) ⊕ ((Int32 × Int32))} (h : b_X12_cut_208 R M L a0 x1 x3 x4 = some x) (hk : Sum.elim (P_X12_cut_208 G K R M L a0 x1 r S') (Q_X12_cut_208 G K R M L a0 x1 r S') x) : P_X12_cut_208 G K R M L a0 x1 r S' (x3, x4) := by
  show Rn G mt_X12_cut 208 [(0, .ref a0), (1, .int x1), (3, .int x3), (4, .int x4)] [] (M, L, R, K) r S'
  unfold b_X12_cut_208 at h
  refine rn_aload_n (q := 0) 0 rfl zd_X12_cut_7.1.1.1.1 ?_
  refine rn_iload_n (q := 1) 1 rfl zd_X12_cut_7.1.1.1.2 ?_
  refine rn_iload_n (q := 3) 2 rfl zd_X12_cut_7.1.1.2.1 ?_
  refine rn_iadd zd_X12_cut_7.1.1.2.2 ?_
  obtain ⟨r22, h23, h⟩ := zbd_e h
  refine rn_callVi (As := [.int (x1 + x3)]) (rest := []) zl_X12_163 zm_X12_byteAt ⟨by decide, by decide⟩ (ci := 12) rfl rfl (by decide) k_a0 rfl rfl (Nat.le_of_ble_eq_true rfl) zd_X12_cut_7.1.2.1.1 (ok_X12_byteAt hW k_a0 h23) ?_
  obtain ⟨r24, h25, h⟩ := zbd_e h
  refine rn_callSi (As := [.int r22]) (rest := []) zl_X12_175 zm_X12_isDigit ⟨by decide, by decide⟩ rfl rfl (Nat.le_of_ble_eq_true rfl) zd_X12_cut_7.1.2.1.2 (ok_X12_isDigit hW h25) ?_
  rcases zif_e h with ⟨hc26, h⟩ | ⟨hc26, h⟩
  · refine rn_if_eq_t (tgt := 250) hc26 zd_X12_cut_7.1.2.2.1 rfl ?_
    cases h
    exact rn_sub (ls' := [(0, .ref a0), (1, .int x1), (3, .int x3), (4, .int x4)]) [0, 1, 2, 3] rfl hk
  · refine rn_if_eq_f (tgt := 250) hc26 zd_X12_cut_7.1.2.2.1 rfl ?_
    refine rn_iload_n (q := 3) 2 rfl zd_X12_cut_7.1.2.2.2 ?_
    refine rn_iconst (v := 4) zd_X12_cut_7.2.1.1.1 rfl ?_
    rcases zif_e h with ⟨hc27, h⟩ | ⟨hc27, h⟩
    · refine rn_icmp_ge_t (tgt := 244) hc27 zd_X12_cut_7.2.1.1.2 rfl ?_
      refine rn_iinc (v := (x3 + 1)) (ls' := [(3, .int (x3 + 1)), (0, .ref a0), (1, .int x1), (4, .int x4)]) 2 rfl rfl (by decide) rfl zd_X12_cut_8.1.2.2.1 ?_
      refine rn_goto (tgt := 208) zd_X12_cut_8.1.2.2.2 rfl ?_
      cases h
      exact rn_sub (ls' := [(0, .ref a0), (1, .int x1), (3, .int (x3 + 1)), (4, .int x4)]) [1, 2, 0, 3] rfl hk
    · refine rn_icmp_ge_f (tgt := 244) hc27 zd_X12_cut_7.2.1.1.2 rfl ?_
      refine rn_bipush (v := 10) zd_X12_cut_7.2.1.2.1 rfl ?_
      refine rn_iload 3 rfl zd_X12_cut_7.2.1.2.2 ?_
      refine rn_imul zd_X12_cut_7.2.2.1.1 ?_
      refine rn_aload_n (q := 0) 0 rfl zd_X12_cut_7.2.2.1.2 ?_
      refine rn_iload_n (q := 1) 1 rfl zd_X12_cut_7.2.2.2.1 ?_
      refine rn_iload_n (q := 3) 2 rfl zd_X12_cut_7.2.2.2.2 ?_
      refine rn_iadd zd_X12_cut_8.1.1.1.1 ?_
      obtain ⟨r28, h29, h⟩ := zbd_e h
      refine rn_callVi (As := [.int (x1 + x3)]) (rest := [.int ((10 : Int32) * x4)]) zl_X12_163 zm_X12_byteAt ⟨by decide, by decide⟩ (ci := 12) rfl rfl (by decide) k_a0 rfl rfl (Nat.le_of_ble_eq_true rfl) zd_X12_cut_8.1.1.1.2 (ok_X12_byteAt hW k_a0 h29) ?_
      refine rn_iadd zd_X12_cut_8.1.1.2.1 ?_
      refine rn_bipush (v := 48) zd_X12_cut_8.1.1.2.2 rfl ?_
      refine rn_isub zd_X12_cut_8.1.2.1.1 ?_
      refine rn_istore (ls' := [(4, .int ((((10 : Int32) * x4) + r28) - (48 : Int32))), (0, .ref a0), (1, .int x1), (3, .int x3)]) (by decide) rfl zd_X12_cut_8.1.2.1.2 ?_
      refine rn_iinc (v := (x3 + 1)) (ls' := [(3, .int (x3 + 1)), (4, .int ((((10 : Int32) * x4) + r28) - (48 : Int32))), (0, .ref a0), (1, .int x1)]) 3 rfl rfl (by decide) rfl zd_X12_cut_8.1.2.2.1 ?_
      refine rn_goto (tgt := 208) zd_X12_cut_8.1.2.2.2 rfl ?_
      cases h
      exact rn_sub (ls' := [(0, .ref a0), (1, .int x1), (3, .int (x3 + 1)), (4, .int ((((10 : Int32) * x4) + r28) - (48 : Int32)))]) [2, 3, 0, 1] rfl hk
def j_X12_cut_261 (R : zR) (M : zM) (L : zL) (a0 : Nat) (x1 : Int32) (x3 : Int32) (x4 : Int32) (b0 : Nat) (s1 : Int32) : Option ((Int32 × zM × zL) ⊕ ((zM × zL) ⊕ (zM × zL))) :=
  zbd2 (f_X12_token R M L b0 s1 x1 x4 (0 : Int64)) fun M32 L33 =>
  some (.inl ((x1 + x3), M32, L33))
set_option maxRecDepth 4000 in
theorem ok_j_X12_cut_261 {G : zG} {K : zK} {R : zR} {M : zM} {L : zL} (hW : zWT R K) {a0 : Nat} {x1 : Int32} {x3 : Int32} {x4 : Int32} {b0 : Nat} {s1 : Int32} (k_a0 : K[a0]? = some (12, 61)) (k_b0 : K[b0]? = some (12, 61)) {r : Option Value} {S' : zS} {x : (Int32 × zM × zL) ⊕ ((zM × zL) ⊕ (zM × zL))} (h : j_X12_cut_261 R M L a0 x1 x3 x4 b0 s1 = some x) (hk : Sum.elim (P_X12_cut_7 G K R a0 r S') (Q_X12_cut_7 G K R a0 r S') x) : Rn G mt_X12_cut 261 [(0, .ref a0), (1, .int x1), (3, .int x3), (4, .int x4)] [.int s1, .ref b0] (M, L, R, K) r S' := by
  unfold j_X12_cut_261 at h
  refine rn_iload_n (q := 1) 1 rfl zd_X12_cut_8.2.2.2.2 ?_
  refine rn_iload 3 rfl zd_X12_cut_9.1.1.1.1 ?_
  refine rn_lconst (v := 0) zd_X12_cut_9.1.1.1.2 rfl ?_
  obtain ⟨M32, L33, h34, h⟩ := zbd2_e h
  refine rn_callVv (As := [.int s1, .int x1, .int x4, .long (0 : Int64)]) (rest := []) zl_X12_167 zm_X12_token ⟨by decide, by decide⟩ (ci := 12) rfl rfl (by decide) k_b0 rfl rfl (Nat.le_of_ble_eq_true rfl) zd_X12_cut_9.1.1.2.1 (ok_X12_token hW k_b0 h34) ?_
  refine rn_iload_n (q := 1) 1 rfl zd_X12_cut_9.1.1.2.2 ?_
  refine rn_iload_n (q := 3) 2 rfl zd_X12_cut_9.1.2.1.1 ?_
  refine rn_iadd zd_X12_cut_9.1.2.1.2 ?_
  refine rn_istore_n (q := 1) (ls' := [(1, .int (x1 + x3)), (0, .ref a0), (3, .int x3), (4, .int x4)]) (by decide) rfl zd_X12_cut_9.1.2.2.1 ?_
  refine rn_goto (tgt := 291) zd_X12_cut_9.1.2.2.2 rfl ?_
  refine rn_goto (tgt := 7) zd_X12_cut_10.2.2.1 rfl ?_
  cases h
  exact rn_sub (ls' := [(0, .ref a0), (1, .int (x1 + x3))]) [1, 0] rfl hk
abbrev P_X12_cut_85 (G : zG) (K : zK) (R : zR) (M : zM) (L : zL) (a0 : Nat) (x1 : Int32) (r : Option Value) (S' : zS) (v : Int32 × Int64) : Prop := Rn G mt_X12_cut 85 [(0, .ref a0), (1, .int x1), (3, .int v.1), (4, .long v.2)] [] (M, L, R, K) r S'
abbrev Q_X12_cut_85 (G : zG) (K : zK) (R : zR) (M : zM) (L : zL) (a0 : Nat) (x1 : Int32) (r : Option Value) (S' : zS) : (Int32 × Int64) → Prop := (fun e => Rn G mt_X12_cut 124 [(0, .ref a0), (1, .int x1), (3, .int e.1), (4, .long e.2)] [] (M, L, R, K) r S')
def b_X12_cut_85 (R : zR) (M : zM) (L : zL) (a0 : Nat) (x1 : Int32) (x3 : Int32) (y4 : Int64) : Option ((Int32 × Int64) ⊕ ((Int32 × Int64))) :=
  zbd (f_X12_byteAt R M a0 (x1 + x3)) fun r35 =>
  zbd (f_X12_isLetter r35) fun r37 =>
  if r37 = 0 then (
    some (.inr (x3, y4))
  ) else (
    if (8 : Int32) ≤ x3 then (
      some (.inl ((x3 + 1), y4))
    ) else (
      zbd (f_X12_byteAt R M a0 (x1 + x3)) fun r41 =>
      zbd (f_X12_appends y4 r41) fun r43 =>
      some (.inl ((x3 + 1), r43))
    )
  )
set_option maxRecDepth 4000 in
theorem ok_b_X12_cut_85 {G : zG} {K : zK} {R : zR} {M : zM} {L : zL} (hW : zWT R K) {a0 : Nat} {x1 : Int32} {x3 : Int32} {y4 : Int64} (k_a0 : K[a0]? = some (12, 61)) {r : Option Value} {S' : zS} {x : (Int32 × Int64) ⊕ ((Int32 × Int64))} (h : b_X12_cut_85 R M L a0 x1 x3 y4 = some x) (hk : Sum.elim (P_X12_cut_85 G K R M L a0 x1 r S') (Q_X12_cut_85 G K R M L a0 x1 r S') x) : P_X12_cut_85 G K R M L a0 x1 r S' (x3, y4) := by
  show Rn G mt_X12_cut 85 [(0, .ref a0), (1, .int x1), (3, .int x3), (4, .long y4)] [] (M, L, R, K) r S'
  unfold b_X12_cut_85 at h
  refine rn_aload_n (q := 0) 0 rfl zd_X12_cut_2.2.2.2.1 ?_
  refine rn_iload_n (q := 1) 1 rfl zd_X12_cut_2.2.2.2.2 ?_
  refine rn_iload_n (q := 3) 2 rfl zd_X12_cut_3.1.1.1.1 ?_
  refine rn_iadd zd_X12_cut_3.1.1.1.2 ?_
  obtain ⟨r35, h36, h⟩ := zbd_e h
  refine rn_callVi (As := [.int (x1 + x3)]) (rest := []) zl_X12_163 zm_X12_byteAt ⟨by decide, by decide⟩ (ci := 12) rfl rfl (by decide) k_a0 rfl rfl (Nat.le_of_ble_eq_true rfl) zd_X12_cut_3.1.1.2.1 (ok_X12_byteAt hW k_a0 h36) ?_
  obtain ⟨r37, h38, h⟩ := zbd_e h
  refine rn_callSi (As := [.int r35]) (rest := []) zl_X12_171 zm_X12_isLetter ⟨by decide, by decide⟩ rfl rfl (Nat.le_of_ble_eq_true rfl) zd_X12_cut_3.1.1.2.2 (ok_X12_isLetter hW h38) ?_
  rcases zif_e h with ⟨hc39, h⟩ | ⟨hc39, h⟩
  · refine rn_if_eq_t (tgt := 124) hc39 zd_X12_cut_3.1.2.1.1 rfl ?_
    cases h
    exact rn_sub (ls' := [(0, .ref a0), (1, .int x1), (3, .int x3), (4, .long y4)]) [0, 1, 2, 3] rfl hk
  · refine rn_if_eq_f (tgt := 124) hc39 zd_X12_cut_3.1.2.1.1 rfl ?_
    refine rn_iload_n (q := 3) 2 rfl zd_X12_cut_3.1.2.1.2 ?_
    refine rn_bipush (v := 8) zd_X12_cut_3.1.2.2.1 rfl ?_
    rcases zif_e h with ⟨hc40, h⟩ | ⟨hc40, h⟩
    · refine rn_icmp_ge_t (tgt := 118) hc40 zd_X12_cut_3.1.2.2.2 rfl ?_
      refine rn_iinc (v := (x3 + 1)) (ls' := [(3, .int (x3 + 1)), (0, .ref a0), (1, .int x1), (4, .long y4)]) 2 rfl rfl (by decide) rfl zd_X12_cut_4.1.1.1.1 ?_
      refine rn_goto (tgt := 85) zd_X12_cut_4.1.1.1.2 rfl ?_
      cases h
      exact rn_sub (ls' := [(0, .ref a0), (1, .int x1), (3, .int (x3 + 1)), (4, .long y4)]) [1, 2, 0, 3] rfl hk
    · refine rn_icmp_ge_f (tgt := 118) hc40 zd_X12_cut_3.1.2.2.2 rfl ?_
      refine rn_lload 3 rfl zd_X12_cut_3.2.1.1.1 ?_
      refine rn_aload_n (q := 0) 0 rfl zd_X12_cut_3.2.1.1.2 ?_
      refine rn_iload_n (q := 1) 1 rfl zd_X12_cut_3.2.1.2.1 ?_
      refine rn_iload_n (q := 3) 2 rfl zd_X12_cut_3.2.1.2.2 ?_
      refine rn_iadd zd_X12_cut_3.2.2.1.1 ?_
      obtain ⟨r41, h42, h⟩ := zbd_e h
      refine rn_callVi (As := [.int (x1 + x3)]) (rest := [.long y4]) zl_X12_163 zm_X12_byteAt ⟨by decide, by decide⟩ (ci := 12) rfl rfl (by decide) k_a0 rfl rfl (Nat.le_of_ble_eq_true rfl) zd_X12_cut_3.2.2.1.2 (ok_X12_byteAt hW k_a0 h42) ?_
      obtain ⟨r43, h44, h⟩ := zbd_e h
      refine rn_callSl (As := [.long y4, .int r41]) (rest := []) zl_X12_156 zm_X12_appends ⟨by decide, by decide⟩ rfl rfl (Nat.le_of_ble_eq_true rfl) zd_X12_cut_3.2.2.2.1 (ok_X12_appends hW h44) ?_
      refine rn_lstore (ls' := [(4, .long r43), (0, .ref a0), (1, .int x1), (3, .int x3)]) (by decide) rfl zd_X12_cut_3.2.2.2.2 ?_
      refine rn_iinc (v := (x3 + 1)) (ls' := [(3, .int (x3 + 1)), (4, .long r43), (0, .ref a0), (1, .int x1)]) 3 rfl rfl (by decide) rfl zd_X12_cut_4.1.1.1.1 ?_
      refine rn_goto (tgt := 85) zd_X12_cut_4.1.1.1.2 rfl ?_
      cases h
      exact rn_sub (ls' := [(0, .ref a0), (1, .int x1), (3, .int (x3 + 1)), (4, .long r43)]) [2, 3, 0, 1] rfl hk
def j_X12_cut_179 (R : zR) (M : zM) (L : zL) (a0 : Nat) (x1 : Int32) (x3 : Int32) (y4 : Int64) (x6 : Int32) : Option ((Int32 × zM × zL) ⊕ ((zM × zL) ⊕ (zM × zL))) :=
  zbd2 (f_X12_token R M L a0 x6 x1 (0 : Int32) y4) fun M48 L49 =>
  some (.inl ((x1 + x3), M48, L49))
set_option maxRecDepth 4000 in
theorem ok_j_X12_cut_179 {G : zG} {K : zK} {R : zR} {M : zM} {L : zL} (hW : zWT R K) {a0 : Nat} {x1 : Int32} {x3 : Int32} {y4 : Int64} {x6 : Int32} (k_a0 : K[a0]? = some (12, 61)) {r : Option Value} {S' : zS} {x : (Int32 × zM × zL) ⊕ ((zM × zL) ⊕ (zM × zL))} (h : j_X12_cut_179 R M L a0 x1 x3 y4 x6 = some x) (hk : Sum.elim (P_X12_cut_7 G K R a0 r S') (Q_X12_cut_7 G K R a0 r S') x) : Rn G mt_X12_cut 179 [(0, .ref a0), (1, .int x1), (3, .int x3), (4, .long y4), (6, .int x6)] [] (M, L, R, K) r S' := by
  unfold j_X12_cut_179 at h
  refine rn_aload_n (q := 0) 0 rfl zd_X12_cut_5.2.2.2.1 ?_
  refine rn_iload 4 rfl zd_X12_cut_5.2.2.2.2 ?_
  refine rn_iload_n (q := 1) 1 rfl zd_X12_cut_6.1.1.1.1 ?_
  refine rn_iconst (v := 0) zd_X12_cut_6.1.1.1.2 rfl ?_
  refine rn_lload 3 rfl zd_X12_cut_6.1.1.2.1 ?_
  obtain ⟨M48, L49, h50, h⟩ := zbd2_e h
  refine rn_callVv (As := [.int x6, .int x1, .int (0 : Int32), .long y4]) (rest := []) zl_X12_167 zm_X12_token ⟨by decide, by decide⟩ (ci := 12) rfl rfl (by decide) k_a0 rfl rfl (Nat.le_of_ble_eq_true rfl) zd_X12_cut_6.1.1.2.2 (ok_X12_token hW k_a0 h50) ?_
  refine rn_iload_n (q := 1) 1 rfl zd_X12_cut_6.1.2.1.1 ?_
  refine rn_iload_n (q := 3) 2 rfl zd_X12_cut_6.1.2.1.2 ?_
  refine rn_iadd zd_X12_cut_6.1.2.2.1 ?_
  refine rn_istore_n (q := 1) (ls' := [(1, .int (x1 + x3)), (0, .ref a0), (3, .int x3), (4, .long y4), (6, .int x6)]) (by decide) rfl zd_X12_cut_6.1.2.2.2 ?_
  refine rn_goto (tgt := 291) zd_X12_cut_6.2.1.1.1 rfl ?_
  refine rn_goto (tgt := 7) zd_X12_cut_10.2.2.1 rfl ?_
  cases h
  exact rn_sub (ls' := [(0, .ref a0), (1, .int (x1 + x3))]) [1, 0] rfl hk
abbrev P_X12_cut_146 (G : zG) (K : zK) (R : zR) (M : zM) (L : zL) (a0 : Nat) (x1 : Int32) (x3 : Int32) (y4 : Int64) (r : Option Value) (S' : zS) (v : Int32 × Int32) : Prop := Rn G mt_X12_cut 146 [(0, .ref a0), (1, .int x1), (3, .int x3), (4, .long y4), (6, .int v.1), (7, .int v.2)] [] (M, L, R, K) r S'
abbrev Q_X12_cut_146 (G : zG) (K : zK) (R : zR) (M : zM) (L : zL) (a0 : Nat) (x1 : Int32) (x3 : Int32) (y4 : Int64) (r : Option Value) (S' : zS) : (Int32) → Prop := (fun e => Rn G mt_X12_cut 179 [(0, .ref a0), (1, .int x1), (3, .int x3), (4, .long y4), (6, .int e)] [] (M, L, R, K) r S')
def b_X12_cut_146 (R : zR) (M : zM) (L : zL) (a0 : Nat) (x1 : Int32) (x3 : Int32) (y4 : Int64) (x6 : Int32) (x7 : Int32) : Option ((Int32 × Int32) ⊕ ((Int32))) :=
  if (20 : Int32) ≤ x7 then (
    some (.inr x6)
  ) else (
    zck (zin x7 20) <|
    if (lg_cmp (L (R a0 9) (ztn x7)) y4) = 0 then (
      some (.inl (((20 : Int32) + x7), (x7 + 1)))
    ) else (
      some (.inl (x6, (x7 + 1)))
    )
  )
set_option maxRecDepth 4000 in
theorem ok_b_X12_cut_146 {G : zG} {K : zK} {R : zR} {M : zM} {L : zL} (hW : zWT R K) {a0 : Nat} {x1 : Int32} {x3 : Int32} {y4 : Int64} {x6 : Int32} {x7 : Int32} (k_a0 : K[a0]? = some (12, 61)) {r : Option Value} {S' : zS} {x : (Int32 × Int32) ⊕ ((Int32))} (h : b_X12_cut_146 R M L a0 x1 x3 y4 x6 x7 = some x) (hk : Sum.elim (P_X12_cut_146 G K R M L a0 x1 x3 y4 r S') (Q_X12_cut_146 G K R M L a0 x1 x3 y4 r S') x) : P_X12_cut_146 G K R M L a0 x1 x3 y4 r S' (x6, x7) := by
  show Rn G mt_X12_cut 146 [(0, .ref a0), (1, .int x1), (3, .int x3), (4, .long y4), (6, .int x6), (7, .int x7)] [] (M, L, R, K) r S'
  unfold b_X12_cut_146 at h
  refine rn_iload 5 rfl zd_X12_cut_4.2.2.2.1 ?_
  refine rn_bipush (v := 20) zd_X12_cut_4.2.2.2.2 rfl ?_
  rcases zif_e h with ⟨hc51, h⟩ | ⟨hc51, h⟩
  · refine rn_icmp_ge_t (tgt := 179) hc51 zd_X12_cut_5.1.1.1.1 rfl ?_
    cases h
    exact rn_sub (ls' := [(0, .ref a0), (1, .int x1), (3, .int x3), (4, .long y4), (6, .int x6)]) [0, 1, 2, 3, 4] rfl hk
  · refine rn_icmp_ge_f (tgt := 179) hc51 zd_X12_cut_5.1.1.1.1 rfl ?_
    refine rn_aload_n (q := 0) 0 rfl zd_X12_cut_5.1.1.1.2 ?_
    refine rn_getR zf_X12_34 (Or.inr ⟨_, rfl⟩) k_a0 (zx_12_9 hW k_a0) zd_X12_cut_5.1.1.2.1 ?_
    refine rn_iload 5 rfl zd_X12_cut_5.1.1.2.2 ?_
    obtain ⟨hc52, h⟩ := zck_e h
    refine rn_lald (zw_12_9 hW k_a0) hc52 zd_X12_cut_5.1.2.1.1 ?_
    refine rn_lload 3 rfl zd_X12_cut_5.1.2.1.2 ?_
    refine rn_lcmp zd_X12_cut_5.1.2.2.1 ?_
    rcases zif_e h with ⟨hc53, h⟩ | ⟨hc53, h⟩
    · refine rn_if_ne_f (tgt := 173) hc53 zd_X12_cut_5.1.2.2.2 rfl ?_
      refine rn_bipush (v := 20) zd_X12_cut_5.2.1.1.1 rfl ?_
      refine rn_iload 5 rfl zd_X12_cut_5.2.1.1.2 ?_
      refine rn_iadd zd_X12_cut_5.2.1.2.1 ?_
      refine rn_istore (ls' := [(6, .int ((20 : Int32) + x7)), (0, .ref a0), (1, .int x1), (3, .int x3), (4, .long y4), (7, .int x7)]) (by decide) rfl zd_X12_cut_5.2.1.2.2 ?_
      refine rn_iinc (v := (x7 + 1)) (ls' := [(7, .int (x7 + 1)), (6, .int ((20 : Int32) + x7)), (0, .ref a0), (1, .int x1), (3, .int x3), (4, .long y4)]) 5 rfl rfl (by decide) rfl zd_X12_cut_5.2.2.1.1 ?_
      refine rn_goto (tgt := 146) zd_X12_cut_5.2.2.1.2 rfl ?_
      cases h
      exact rn_sub (ls' := [(0, .ref a0), (1, .int x1), (3, .int x3), (4, .long y4), (6, .int ((20 : Int32) + x7)), (7, .int (x7 + 1))]) [2, 3, 4, 5, 1, 0] rfl hk
    · refine rn_if_ne_t (tgt := 173) hc53 zd_X12_cut_5.1.2.2.2 rfl ?_
      refine rn_iinc (v := (x7 + 1)) (ls' := [(7, .int (x7 + 1)), (0, .ref a0), (1, .int x1), (3, .int x3), (4, .long y4), (6, .int x6)]) 5 rfl rfl (by decide) rfl zd_X12_cut_5.2.2.1.1 ?_
      refine rn_goto (tgt := 146) zd_X12_cut_5.2.2.1.2 rfl ?_
      cases h
      exact rn_sub (ls' := [(0, .ref a0), (1, .int x1), (3, .int x3), (4, .long y4), (6, .int x6), (7, .int (x7 + 1))]) [1, 2, 3, 4, 5, 0] rfl hk
def j_X12_cut_135 (R : zR) (M : zM) (L : zL) (a0 : Nat) (x1 : Int32) (x3 : Int32) (y4 : Int64) (s0 : Int32) : Option ((Int32 × zM × zL) ⊕ ((zM × zL) ⊕ (zM × zL))) :=
  if (7 : Int32) < x3 then (
    j_X12_cut_179 R M L a0 x1 x3 y4 s0
  ) else (
    zbd (zloop zN (fun v => b_X12_cut_146 R M L a0 x1 x3 y4 v.1 v.2) (s0, (0 : Int32))) fun e54 =>
    j_X12_cut_179 R M L a0 x1 x3 y4 e54
  )
set_option maxRecDepth 4000 in
theorem ok_j_X12_cut_135 {G : zG} {K : zK} {R : zR} {M : zM} {L : zL} (hW : zWT R K) {a0 : Nat} {x1 : Int32} {x3 : Int32} {y4 : Int64} {s0 : Int32} (k_a0 : K[a0]? = some (12, 61)) {r : Option Value} {S' : zS} {x : (Int32 × zM × zL) ⊕ ((zM × zL) ⊕ (zM × zL))} (h : j_X12_cut_135 R M L a0 x1 x3 y4 s0 = some x) (hk : Sum.elim (P_X12_cut_7 G K R a0 r S') (Q_X12_cut_7 G K R a0 r S') x) : Rn G mt_X12_cut 135 [(0, .ref a0), (1, .int x1), (3, .int x3), (4, .long y4)] [.int s0] (M, L, R, K) r S' := by
  unfold j_X12_cut_135 at h
  refine rn_istore (ls' := [(6, .int s0), (0, .ref a0), (1, .int x1), (3, .int x3), (4, .long y4)]) (by decide) rfl zd_X12_cut_4.2.1.1.1 ?_
  refine rn_iload_n (q := 3) 3 rfl zd_X12_cut_4.2.1.1.2 ?_
  refine rn_bipush (v := 7) zd_X12_cut_4.2.1.2.1 rfl ?_
  rcases zif_e h with ⟨hc47, h⟩ | ⟨hc47, h⟩
  · refine rn_icmp_gt_t (tgt := 179) hc47 zd_X12_cut_4.2.1.2.2 rfl ?_
    exact rn_sub (ls' := [(0, .ref a0), (1, .int x1), (3, .int x3), (4, .long y4), (6, .int s0)]) [1, 2, 3, 4, 0] rfl (ok_j_X12_cut_179 hW k_a0 h hk)
  · refine rn_icmp_gt_f (tgt := 179) hc47 zd_X12_cut_4.2.1.2.2 rfl ?_
    refine rn_iconst (v := 0) zd_X12_cut_4.2.2.1.1 rfl ?_
    refine rn_istore (ls' := [(7, .int (0 : Int32)), (6, .int s0), (0, .ref a0), (1, .int x1), (3, .int x3), (4, .long y4)]) (by decide) rfl zd_X12_cut_4.2.2.1.2 ?_
    obtain ⟨e54, he54, h⟩ := zbd_e h
    refine rn_sub (ls' := [(0, .ref a0), (1, .int x1), (3, .int x3), (4, .long y4), (6, .int s0), (7, .int (0 : Int32))]) [2, 3, 4, 5, 1, 0] rfl (zloop_ok (P := P_X12_cut_146 G K R M L a0 x1 x3 y4 r S') (Q := Q_X12_cut_146 G K R M L a0 x1 x3 y4 r S') (fun v x hx hq => ok_b_X12_cut_146 hW k_a0 hx hq) _ _ _ he54 ?_)
    show Rn G mt_X12_cut 179 [(0, .ref a0), (1, .int x1), (3, .int x3), (4, .long y4), (6, .int e54)] [] (M, L, R, K) r S'
    exact rn_sub (ls' := [(0, .ref a0), (1, .int x1), (3, .int x3), (4, .long y4), (6, .int e54)]) [0, 1, 2, 3, 4] rfl (ok_j_X12_cut_179 hW k_a0 h hk)
def b_X12_cut_7 (R : zR) (M : zM) (L : zL) (a0 : Nat) (x1 : Int32) : Option ((Int32 × zM × zL) ⊕ ((zM × zL) ⊕ (zM × zL))) :=
  if (400 : Int32) < (M a0 10) then (
    some (.inr (.inr (M, L)))
  ) else (
    zbd (f_X12_byteAt R M a0 x1) fun r3 =>
    if x1 < (M a0 4) then (
      if r3 = (9 : Int32) then (
        some (.inl ((x1 + 1), M, L))
      ) else (
        if r3 = (10 : Int32) then (
          some (.inl ((x1 + 1), M, L))
        ) else (
          if r3 = (13 : Int32) then (
            some (.inl ((x1 + 1), M, L))
          ) else (
            if r3 = (32 : Int32) then (
              some (.inl ((x1 + 1), M, L))
            ) else (
              zbd (f_X12_isLetter r3) fun r10 =>
              if r10 = 0 then (
                zbd (f_X12_isDigit r3) fun r13 =>
                if r13 = 0 then (
                  zbd (f_X12_byteAt R M a0 (x1 + (1 : Int32))) fun r16 =>
                  zbd3 (f_X12_sign R M L a0 x1 r3 r16) fun r18 M19 L20 =>
                  some (.inl ((x1 + r18), M19, L20))
                ) else (
                  zbd (zloop zN (fun v => b_X12_cut_208 R M L a0 x1 v.1 v.2) ((0 : Int32), (0 : Int32))) fun e30 =>
                  if e30.1 ≤ (4 : Int32) then (
                    j_X12_cut_261 R M L a0 x1 e30.1 e30.2 a0 (2 : Int32)
                  ) else (
                    j_X12_cut_261 R M L a0 x1 e30.1 e30.2 a0 (3 : Int32)
                  )
                )
              ) else (
                zbd (zloop zN (fun v => b_X12_cut_85 R M L a0 x1 v.1 v.2) ((0 : Int32), (0 : Int64))) fun e45 =>
                if e45.1 ≤ (8 : Int32) then (
                  j_X12_cut_135 R M L a0 x1 e45.1 e45.2 (1 : Int32)
                ) else (
                  j_X12_cut_135 R M L a0 x1 e45.1 e45.2 (3 : Int32)
                )
              )
            )
          )
        )
      )
    ) else (
      some (.inr (.inl (M, L)))
    )
  )
set_option maxRecDepth 4000 in
theorem ok_b_X12_cut_7 {G : zG} {K : zK} {R : zR} {M : zM} {L : zL} (hW : zWT R K) {a0 : Nat} {x1 : Int32} (k_a0 : K[a0]? = some (12, 61)) {r : Option Value} {S' : zS} {x : (Int32 × zM × zL) ⊕ ((zM × zL) ⊕ (zM × zL))} (h : b_X12_cut_7 R M L a0 x1 = some x) (hk : Sum.elim (P_X12_cut_7 G K R a0 r S') (Q_X12_cut_7 G K R a0 r S') x) : P_X12_cut_7 G K R a0 r S' (x1, M, L) := by
  show Rn G mt_X12_cut 7 [(0, .ref a0), (1, .int x1)] [] (M, L, R, K) r S'
  unfold b_X12_cut_7 at h
  refine rn_aload_n (q := 0) 0 rfl zd_X12_cut_0.1.2.1.2 ?_
  refine rn_getI zf_X12_160 (Or.inl rfl) k_a0 zd_X12_cut_0.1.2.2.1 ?_
  refine rn_sipush (v := 400) zd_X12_cut_0.1.2.2.2 rfl ?_
  rcases zif_e h with ⟨hc2, h⟩ | ⟨hc2, h⟩
  · refine rn_icmp_gt_t (tgt := 294) hc2 zd_X12_cut_0.2.1.1.1 rfl ?_
    cases h
    exact rn_sub (ls' := []) [] rfl hk
  · refine rn_icmp_gt_f (tgt := 294) hc2 zd_X12_cut_0.2.1.1.1 rfl ?_
    refine rn_aload_n (q := 0) 0 rfl zd_X12_cut_0.2.1.1.2 ?_
    refine rn_iload_n (q := 1) 1 rfl zd_X12_cut_0.2.1.2.1 ?_
    obtain ⟨r3, h4, h⟩ := zbd_e h
    refine rn_callVi (As := [.int x1]) (rest := []) zl_X12_163 zm_X12_byteAt ⟨by decide, by decide⟩ (ci := 12) rfl rfl (by decide) k_a0 rfl rfl (Nat.le_of_ble_eq_true rfl) zd_X12_cut_0.2.1.2.2 (ok_X12_byteAt hW k_a0 h4) ?_
    refine rn_istore_n (q := 2) (ls' := [(2, .int r3), (0, .ref a0), (1, .int x1)]) (by decide) rfl zd_X12_cut_0.2.2.1.1 ?_
    refine rn_iload_n (q := 1) 2 rfl zd_X12_cut_0.2.2.1.2 ?_
    refine rn_aload_n (q := 0) 1 rfl zd_X12_cut_0.2.2.2.1 ?_
    refine rn_getI zf_X12_151 (Or.inl rfl) k_a0 zd_X12_cut_0.2.2.2.2 ?_
    rcases zif_e h with ⟨hc5, h⟩ | ⟨hc5, h⟩
    · refine rn_icmp_lt_t (tgt := 43) hc5 zd_X12_cut_1.1.1.1.1 rfl ?_
      refine rn_iload_n (q := 2) 0 rfl zd_X12_cut_1.2.1.1.2 ?_
      refine rn_bipush (v := 9) zd_X12_cut_1.2.1.2.1 rfl ?_
      rcases zif_e h with ⟨hc6, h⟩ | ⟨hc6, h⟩
      · refine rn_icmp_eq_t (tgt := 67) hc6 zd_X12_cut_1.2.1.2.2 rfl ?_
        refine rn_iinc (v := (x1 + 1)) (ls' := [(1, .int (x1 + 1)), (2, .int r3), (0, .ref a0)]) 2 rfl rfl (by decide) rfl zd_X12_cut_2.1.2.1.2 ?_
        refine rn_goto (tgt := 291) zd_X12_cut_2.1.2.2.1 rfl ?_
        refine rn_goto (tgt := 7) zd_X12_cut_10.2.2.1 rfl ?_
        cases h
        exact rn_sub (ls' := [(0, .ref a0), (1, .int (x1 + 1))]) [2, 0] rfl hk
      · refine rn_icmp_eq_f (tgt := 67) hc6 zd_X12_cut_1.2.1.2.2 rfl ?_
        refine rn_iload_n (q := 2) 0 rfl zd_X12_cut_1.2.2.1.1 ?_
        refine rn_bipush (v := 10) zd_X12_cut_1.2.2.1.2 rfl ?_
        rcases zif_e h with ⟨hc7, h⟩ | ⟨hc7, h⟩
        · refine rn_icmp_eq_t (tgt := 67) hc7 zd_X12_cut_1.2.2.2.1 rfl ?_
          refine rn_iinc (v := (x1 + 1)) (ls' := [(1, .int (x1 + 1)), (2, .int r3), (0, .ref a0)]) 2 rfl rfl (by decide) rfl zd_X12_cut_2.1.2.1.2 ?_
          refine rn_goto (tgt := 291) zd_X12_cut_2.1.2.2.1 rfl ?_
          refine rn_goto (tgt := 7) zd_X12_cut_10.2.2.1 rfl ?_
          cases h
          exact rn_sub (ls' := [(0, .ref a0), (1, .int (x1 + 1))]) [2, 0] rfl hk
        · refine rn_icmp_eq_f (tgt := 67) hc7 zd_X12_cut_1.2.2.2.1 rfl ?_
          refine rn_iload_n (q := 2) 0 rfl zd_X12_cut_1.2.2.2.2 ?_
          refine rn_bipush (v := 13) zd_X12_cut_2.1.1.1.1 rfl ?_
          rcases zif_e h with ⟨hc8, h⟩ | ⟨hc8, h⟩
          · refine rn_icmp_eq_t (tgt := 67) hc8 zd_X12_cut_2.1.1.1.2 rfl ?_
            refine rn_iinc (v := (x1 + 1)) (ls' := [(1, .int (x1 + 1)), (2, .int r3), (0, .ref a0)]) 2 rfl rfl (by decide) rfl zd_X12_cut_2.1.2.1.2 ?_
            refine rn_goto (tgt := 291) zd_X12_cut_2.1.2.2.1 rfl ?_
            refine rn_goto (tgt := 7) zd_X12_cut_10.2.2.1 rfl ?_
            cases h
            exact rn_sub (ls' := [(0, .ref a0), (1, .int (x1 + 1))]) [2, 0] rfl hk
          · refine rn_icmp_eq_f (tgt := 67) hc8 zd_X12_cut_2.1.1.1.2 rfl ?_
            refine rn_iload_n (q := 2) 0 rfl zd_X12_cut_2.1.1.2.1 ?_
            refine rn_bipush (v := 32) zd_X12_cut_2.1.1.2.2 rfl ?_
            rcases zif_e h with ⟨hc9, h⟩ | ⟨hc9, h⟩
            · refine rn_icmp_ne_f (tgt := 73) hc9 zd_X12_cut_2.1.2.1.1 rfl ?_
              refine rn_iinc (v := (x1 + 1)) (ls' := [(1, .int (x1 + 1)), (2, .int r3), (0, .ref a0)]) 2 rfl rfl (by decide) rfl zd_X12_cut_2.1.2.1.2 ?_
              refine rn_goto (tgt := 291) zd_X12_cut_2.1.2.2.1 rfl ?_
              refine rn_goto (tgt := 7) zd_X12_cut_10.2.2.1 rfl ?_
              cases h
              exact rn_sub (ls' := [(0, .ref a0), (1, .int (x1 + 1))]) [2, 0] rfl hk
            · refine rn_icmp_ne_t (tgt := 73) hc9 zd_X12_cut_2.1.2.1.1 rfl ?_
              refine rn_iload_n (q := 2) 0 rfl zd_X12_cut_2.1.2.2.2 ?_
              obtain ⟨r10, h11, h⟩ := zbd_e h
              refine rn_callSi (As := [.int r3]) (rest := []) zl_X12_171 zm_X12_isLetter ⟨by decide, by decide⟩ rfl rfl (Nat.le_of_ble_eq_true rfl) zd_X12_cut_2.2.1.1.1 (ok_X12_isLetter hW h11) ?_
              rcases zif_e h with ⟨hc12, h⟩ | ⟨hc12, h⟩
              · refine rn_if_eq_t (tgt := 196) hc12 zd_X12_cut_2.2.1.1.2 rfl ?_
                refine rn_iload_n (q := 2) 0 rfl zd_X12_cut_6.2.1.1.2 ?_
                obtain ⟨r13, h14, h⟩ := zbd_e h
                refine rn_callSi (As := [.int r3]) (rest := []) zl_X12_175 zm_X12_isDigit ⟨by decide, by decide⟩ rfl rfl (Nat.le_of_ble_eq_true rfl) zd_X12_cut_6.2.1.2.1 (ok_X12_isDigit hW h14) ?_
                rcases zif_e h with ⟨hc15, h⟩ | ⟨hc15, h⟩
                · refine rn_if_eq_t (tgt := 275) hc15 zd_X12_cut_6.2.1.2.2 rfl ?_
                  refine rn_iload_n (q := 1) 2 rfl zd_X12_cut_9.2.1.1.1 ?_
                  refine rn_aload_n (q := 0) 1 rfl zd_X12_cut_9.2.1.1.2 ?_
                  refine rn_iload_n (q := 1) 2 rfl zd_X12_cut_9.2.1.2.1 ?_
                  refine rn_iload_n (q := 2) 0 rfl zd_X12_cut_9.2.1.2.2 ?_
                  refine rn_aload_n (q := 0) 1 rfl zd_X12_cut_9.2.2.1.1 ?_
                  refine rn_iload_n (q := 1) 2 rfl zd_X12_cut_9.2.2.1.2 ?_
                  refine rn_iconst (v := 1) zd_X12_cut_9.2.2.2.1 rfl ?_
                  refine rn_iadd zd_X12_cut_9.2.2.2.2 ?_
                  obtain ⟨r16, h17, h⟩ := zbd_e h
                  refine rn_callVi (As := [.int (x1 + (1 : Int32))]) (rest := [.int r3, .int x1, .ref a0, .int x1]) zl_X12_163 zm_X12_byteAt ⟨by decide, by decide⟩ (ci := 12) rfl rfl (by decide) k_a0 rfl rfl (Nat.le_of_ble_eq_true rfl) zd_X12_cut_10.1.1 (ok_X12_byteAt hW k_a0 h17) ?_
                  obtain ⟨r18, M19, L20, h21, h⟩ := zbd3_e h
                  refine rn_callVi (As := [.int x1, .int r3, .int r16]) (rest := [.int x1]) zl_X12_178 zm_X12_sign ⟨by decide, by decide⟩ (ci := 12) rfl rfl (by decide) k_a0 rfl rfl (Nat.le_of_ble_eq_true rfl) zd_X12_cut_10.1.2.1 (ok_X12_sign hW k_a0 h21) ?_
                  refine rn_iadd zd_X12_cut_10.1.2.2 ?_
                  refine rn_istore_n (q := 1) (ls' := [(1, .int (x1 + r18)), (2, .int r3), (0, .ref a0)]) (by decide) rfl zd_X12_cut_10.2.1 ?_
                  refine rn_goto (tgt := 7) zd_X12_cut_10.2.2.1 rfl ?_
                  cases h
                  exact rn_sub (ls' := [(0, .ref a0), (1, .int (x1 + r18))]) [2, 0] rfl hk
                · refine rn_if_eq_f (tgt := 275) hc15 zd_X12_cut_6.2.1.2.2 rfl ?_
                  refine rn_iconst (v := 0) zd_X12_cut_6.2.2.1.1 rfl ?_
                  refine rn_istore_n (q := 3) (ls' := [(3, .int (0 : Int32)), (2, .int r3), (0, .ref a0), (1, .int x1)]) (by decide) rfl zd_X12_cut_6.2.2.1.2 ?_
                  refine rn_iconst (v := 0) zd_X12_cut_6.2.2.2.1 rfl ?_
                  refine rn_istore (ls' := [(4, .int (0 : Int32)), (3, .int (0 : Int32)), (2, .int r3), (0, .ref a0), (1, .int x1)]) (by decide) rfl zd_X12_cut_6.2.2.2.2 ?_
                  obtain ⟨e30, he30, h⟩ := zbd_e h
                  refine rn_sub (ls' := [(0, .ref a0), (1, .int x1), (3, .int (0 : Int32)), (4, .int (0 : Int32))]) [3, 4, 1, 0] rfl (zloop_ok (P := P_X12_cut_208 G K R M L a0 x1 r S') (Q := Q_X12_cut_208 G K R M L a0 x1 r S') (fun v x hx hq => ok_b_X12_cut_208 hW k_a0 hx hq) _ _ _ he30 ?_)
                  show Rn G mt_X12_cut 250 [(0, .ref a0), (1, .int x1), (3, .int e30.1), (4, .int e30.2)] [] (M, L, R, K) r S'
                  refine rn_aload_n (q := 0) 0 rfl zd_X12_cut_8.2.1.1.1 ?_
                  refine rn_iload_n (q := 3) 2 rfl zd_X12_cut_8.2.1.1.2 ?_
                  refine rn_iconst (v := 4) zd_X12_cut_8.2.1.2.1 rfl ?_
                  rcases zif_e h with ⟨hc31, h⟩ | ⟨hc31, h⟩
                  · refine rn_icmp_le_t (tgt := 260) hc31 zd_X12_cut_8.2.1.2.2 rfl ?_
                    refine rn_iconst (v := 2) zd_X12_cut_8.2.2.2.1 rfl ?_
                    exact rn_sub (ls' := [(0, .ref a0), (1, .int x1), (3, .int e30.1), (4, .int e30.2)]) [0, 1, 2, 3] rfl (ok_j_X12_cut_261 hW k_a0 k_a0 h hk)
                  · refine rn_icmp_le_f (tgt := 260) hc31 zd_X12_cut_8.2.1.2.2 rfl ?_
                    refine rn_iconst (v := 3) zd_X12_cut_8.2.2.1.1 rfl ?_
                    refine rn_goto (tgt := 261) zd_X12_cut_8.2.2.1.2 rfl ?_
                    exact rn_sub (ls' := [(0, .ref a0), (1, .int x1), (3, .int e30.1), (4, .int e30.2)]) [0, 1, 2, 3] rfl (ok_j_X12_cut_261 hW k_a0 k_a0 h hk)
              · refine rn_if_eq_f (tgt := 196) hc12 zd_X12_cut_2.2.1.1.2 rfl ?_
                refine rn_iconst (v := 0) zd_X12_cut_2.2.1.2.1 rfl ?_
                refine rn_istore_n (q := 3) (ls' := [(3, .int (0 : Int32)), (2, .int r3), (0, .ref a0), (1, .int x1)]) (by decide) rfl zd_X12_cut_2.2.1.2.2 ?_
                refine rn_lconst (v := 0) zd_X12_cut_2.2.2.1.1 rfl ?_
                refine rn_lstore (ls' := [(4, .long (0 : Int64)), (3, .int (0 : Int32)), (2, .int r3), (0, .ref a0), (1, .int x1)]) (by decide) rfl zd_X12_cut_2.2.2.1.2 ?_
                obtain ⟨e45, he45, h⟩ := zbd_e h
                refine rn_sub (ls' := [(0, .ref a0), (1, .int x1), (3, .int (0 : Int32)), (4, .long (0 : Int64))]) [3, 4, 1, 0] rfl (zloop_ok (P := P_X12_cut_85 G K R M L a0 x1 r S') (Q := Q_X12_cut_85 G K R M L a0 x1 r S') (fun v x hx hq => ok_b_X12_cut_85 hW k_a0 hx hq) _ _ _ he45 ?_)
                show Rn G mt_X12_cut 124 [(0, .ref a0), (1, .int x1), (3, .int e45.1), (4, .long e45.2)] [] (M, L, R, K) r S'
                refine rn_iload_n (q := 3) 2 rfl zd_X12_cut_4.1.1.2.1 ?_
                refine rn_bipush (v := 8) zd_X12_cut_4.1.1.2.2 rfl ?_
                rcases zif_e h with ⟨hc46, h⟩ | ⟨hc46, h⟩
                · refine rn_icmp_le_t (tgt := 134) hc46 zd_X12_cut_4.1.2.1.1 rfl ?_
                  refine rn_iconst (v := 1) zd_X12_cut_4.1.2.2.2 rfl ?_
                  exact rn_sub (ls' := [(0, .ref a0), (1, .int x1), (3, .int e45.1), (4, .long e45.2)]) [0, 1, 2, 3] rfl (ok_j_X12_cut_135 hW k_a0 h hk)
                · refine rn_icmp_le_f (tgt := 134) hc46 zd_X12_cut_4.1.2.1.1 rfl ?_
                  refine rn_iconst (v := 3) zd_X12_cut_4.1.2.1.2 rfl ?_
                  refine rn_goto (tgt := 135) zd_X12_cut_4.1.2.2.1 rfl ?_
                  exact rn_sub (ls' := [(0, .ref a0), (1, .int x1), (3, .int e45.1), (4, .long e45.2)]) [0, 1, 2, 3] rfl (ok_j_X12_cut_135 hW k_a0 h hk)
    · refine rn_icmp_lt_f (tgt := 43) hc5 zd_X12_cut_1.1.1.1.1 rfl ?_
      cases h
      exact rn_sub (ls' := [(0, .ref a0)]) [1] rfl hk
def f_X12_cut (R : zR) (M : zM) (L : zL) (a0 : Nat) : Option (zM × zL) :=
  zlt (zup M a0 10 (0 : Int32)) fun M1 =>
  zbd (zloop zN (fun v => b_X12_cut_7 R v.2.1 v.2.2 a0 v.1) ((0 : Int32), M1, L)) fun e55 =>
  Sum.elim (fun e56 =>
    zbd2 (f_X12_token R e56.1 e56.2 a0 (0 : Int32) (e56.1 a0 4) (0 : Int32) (0 : Int64)) fun M58 L59 =>
    some (M58, L59)
  ) (fun e57 =>
    some (e57.1, e57.2)
  ) e55
set_option maxRecDepth 4000 in
theorem ok_X12_cut {G : zG} {K : zK} {R : zR} {M : zM} {L : zL} (hW : zWT R K) {a0 : Nat} (k_a0 : K[a0]? = some (12, 61)) {M' : zM} {L' : zL} (h : f_X12_cut R M L a0 = some (M', L')) : Rm G mt_X12_cut [.ref a0] (M, L, R, K) none (M', L', R, K) := by
  refine rm_rn rfl rfl (Nat.le_of_ble_eq_true rfl) ?_
  show Rn G mt_X12_cut 0 [(0, .ref a0)] [] (M, L, R, K) none (M', L', R, K)
  unfold f_X12_cut at h
  refine rn_aload_n (q := 0) 0 rfl zd_X12_cut_0.1.1.1.1 ?_
  refine rn_iconst (v := 0) zd_X12_cut_0.1.1.1.2 rfl ?_
  obtain ⟨M1, hM1, h⟩ := zlt_e h
  refine rn_putI hM1 zf_X12_160 k_a0 zd_X12_cut_0.1.1.2.1 ?_
  refine rn_iconst (v := 0) zd_X12_cut_0.1.1.2.2 rfl ?_
  refine rn_istore_n (q := 1) (ls' := [(1, .int (0 : Int32)), (0, .ref a0)]) (by decide) rfl zd_X12_cut_0.1.2.1.1 ?_
  obtain ⟨e55, he55, h⟩ := zbd_e h
  refine rn_sub (ls' := [(0, .ref a0), (1, .int (0 : Int32))]) [1, 0] rfl (zloop_ok (P := P_X12_cut_7 G K R a0 none (M', L', R, K)) (Q := Q_X12_cut_7 G K R a0 none (M', L', R, K)) (fun v x hx hq => ok_b_X12_cut_7 hW k_a0 hx hq) _ _ _ he55 ?_)
  rcases e55 with e56 | e57
  · rw [Sum.elim_inl] at h
    show Rn G mt_X12_cut 31 [(0, .ref a0)] [] (e56.1, e56.2, R, K) none (M', L', R, K)
    refine rn_aload_n (q := 0) 0 rfl zd_X12_cut_1.1.1.1.2 ?_
    refine rn_iconst (v := 0) zd_X12_cut_1.1.1.2.1 rfl ?_
    refine rn_aload_n (q := 0) 0 rfl zd_X12_cut_1.1.1.2.2 ?_
    refine rn_getI zf_X12_151 (Or.inl rfl) k_a0 zd_X12_cut_1.1.2.1.1 ?_
    refine rn_iconst (v := 0) zd_X12_cut_1.1.2.1.2 rfl ?_
    refine rn_lconst (v := 0) zd_X12_cut_1.1.2.2.1 rfl ?_
    obtain ⟨M58, L59, h60, h⟩ := zbd2_e h
    refine rn_callVv (As := [.int (0 : Int32), .int (e56.1 a0 4), .int (0 : Int32), .long (0 : Int64)]) (rest := []) zl_X12_167 zm_X12_token ⟨by decide, by decide⟩ (ci := 12) rfl rfl (by decide) k_a0 rfl rfl (Nat.le_of_ble_eq_true rfl) zd_X12_cut_1.1.2.2.2 (ok_X12_token hW k_a0 h60) ?_
    cases h
    exact rn_vret zd_X12_cut_1.2.1.1.1 rfl
  · rw [Sum.elim_inr] at h
    show Rn G mt_X12_cut 294 [] [] (e57.1, e57.2, R, K) none (M', L', R, K)
    cases h
    exact rn_vret zd_X12_cut_10.2.2.2 rfl
def f_X12_is (R : zR) (M : zM) (a0 : Nat) (x1 : Int32) : Option (Int32) :=
  if (M a0 13) = 0 then (
    zck (zin (M a0 11) 403) <|
    if (M (R a0 5) (ztn (M a0 11))) = x1 then (
      some (1 : Int32)
    ) else (
      some (0 : Int32)
    )
  ) else (
    some (0 : Int32)
  )
set_option maxRecDepth 4000 in
theorem ok_X12_is {G : zG} {K : zK} {R : zR} {M : zM} {L : zL} (hW : zWT R K) {a0 : Nat} {x1 : Int32} (k_a0 : K[a0]? = some (12, 61)) {r' : Int32} (h : f_X12_is R M a0 x1 = some r') : Rm G mt_X12_is [.ref a0, .int x1] (M, L, R, K) (some (.int r')) (M, L, R, K) := by
  refine rm_rn rfl rfl (Nat.le_of_ble_eq_true rfl) ?_
  show Rn G mt_X12_is 0 [(0, .ref a0), (1, .int x1)] [] (M, L, R, K) (some (.int r')) (M, L, R, K)
  unfold f_X12_is at h
  refine rn_aload_n (q := 0) 0 rfl zd_X12_is_0.1.1.1 ?_
  refine rn_getI zf_X12_182 (Or.inl rfl) k_a0 zd_X12_is_0.1.1.2.1 ?_
  rcases zif_e h with ⟨hc1, h⟩ | ⟨hc1, h⟩
  · refine rn_if_ne_f (tgt := 24) hc1 zd_X12_is_0.1.1.2.2 rfl ?_
    refine rn_aload_n (q := 0) 0 rfl zd_X12_is_0.1.2.1.1 ?_
    refine rn_getR zf_X12_20 (Or.inr ⟨_, rfl⟩) k_a0 (zx_12_5 hW k_a0) zd_X12_is_0.1.2.1.2 ?_
    refine rn_aload_n (q := 0) 0 rfl zd_X12_is_0.1.2.2.1 ?_
    refine rn_getI zf_X12_185 (Or.inl rfl) k_a0 zd_X12_is_0.1.2.2.2 ?_
    obtain ⟨hc2, h⟩ := zck_e h
    refine rn_iald (zw_12_5 hW k_a0) hc2 zd_X12_is_0.2.1.1 ?_
    refine rn_iload_n (q := 1) 1 rfl zd_X12_is_0.2.1.2.1 ?_
    rcases zif_e h with ⟨hc3, h⟩ | ⟨hc3, h⟩
    · refine rn_icmp_ne_f (tgt := 24) hc3 zd_X12_is_0.2.1.2.2 rfl ?_
      refine rn_iconst (v := 1) zd_X12_is_0.2.2.1.1 rfl ?_
      refine rn_goto (tgt := 25) zd_X12_is_0.2.2.1.2 rfl ?_
      cases h
      exact rn_zret zd_X12_is_0.2.2.2.2 rfl rfl
    · refine rn_icmp_ne_t (tgt := 24) hc3 zd_X12_is_0.2.1.2.2 rfl ?_
      refine rn_iconst (v := 0) zd_X12_is_0.2.2.2.1 rfl ?_
      cases h
      exact rn_zret zd_X12_is_0.2.2.2.2 rfl rfl
  · refine rn_if_ne_t (tgt := 24) hc1 zd_X12_is_0.1.1.2.2 rfl ?_
    refine rn_iconst (v := 0) zd_X12_is_0.2.2.2.1 rfl ?_
    cases h
    exact rn_zret zd_X12_is_0.2.2.2.2 rfl rfl
def f_X12_fail (R : zR) (M : zM) (a0 : Nat) (x1 : Int32) : Option (zM) :=
  if (M a0 13) ≤ 0 then (
    zlt (zup M a0 13 x1) fun M2 =>
    zck (zin (M2 a0 11) 403) <|
    zlt (zup M2 a0 14 (M2 (R a0 6) (ztn (M2 a0 11)))) fun M4 =>
    some M4
  ) else (
    some M
  )
set_option maxRecDepth 4000 in
theorem ok_X12_fail {G : zG} {K : zK} {R : zR} {M : zM} {L : zL} (hW : zWT R K) {a0 : Nat} {x1 : Int32} (k_a0 : K[a0]? = some (12, 61)) {M' : zM} (h : f_X12_fail R M a0 x1 = some M') : Rm G mt_X12_fail [.ref a0, .int x1] (M, L, R, K) none (M', L, R, K) := by
  refine rm_rn rfl rfl (Nat.le_of_ble_eq_true rfl) ?_
  show Rn G mt_X12_fail 0 [(0, .ref a0), (1, .int x1)] [] (M, L, R, K) none (M', L, R, K)
  unfold f_X12_fail at h
  refine rn_aload_n (q := 0) 0 rfl zd_X12_fail_0.1.1.1 ?_
  refine rn_getI zf_X12_182 (Or.inl rfl) k_a0 zd_X12_fail_0.1.1.2.1 ?_
  rcases zif_e h with ⟨hc1, h⟩ | ⟨hc1, h⟩
  · refine rn_if_le_t (tgt := 8) hc1 zd_X12_fail_0.1.1.2.2 rfl ?_
    refine rn_aload_n (q := 0) 0 rfl zd_X12_fail_0.1.2.1.2 ?_
    refine rn_iload_n (q := 1) 1 rfl zd_X12_fail_0.1.2.2.1 ?_
    obtain ⟨M2, hM2, h⟩ := zlt_e h
    refine rn_putI hM2 zf_X12_182 k_a0 zd_X12_fail_0.1.2.2.2 ?_
    refine rn_aload_n (q := 0) 0 rfl zd_X12_fail_0.2.1.1.1 ?_
    refine rn_aload_n (q := 0) 0 rfl zd_X12_fail_0.2.1.1.2 ?_
    refine rn_getR zf_X12_24 (Or.inr ⟨_, rfl⟩) k_a0 (zx_12_6 hW k_a0) zd_X12_fail_0.2.1.2.1 ?_
    refine rn_aload_n (q := 0) 0 rfl zd_X12_fail_0.2.1.2.2 ?_
    refine rn_getI zf_X12_185 (Or.inl rfl) k_a0 zd_X12_fail_0.2.2.1.1 ?_
    obtain ⟨hc3, h⟩ := zck_e h
    refine rn_iald (zw_12_6 hW k_a0) hc3 zd_X12_fail_0.2.2.1.2 ?_
    obtain ⟨M4, hM4, h⟩ := zlt_e h
    refine rn_putI hM4 zf_X12_188 k_a0 zd_X12_fail_0.2.2.2.1 ?_
    cases h
    exact rn_vret zd_X12_fail_0.2.2.2.2 rfl
  · refine rn_if_le_f (tgt := 8) hc1 zd_X12_fail_0.1.1.2.2 rfl ?_
    cases h
    exact rn_vret zd_X12_fail_0.1.2.1.1 rfl
def j_X12_wrong_46 (R : zR) (M : zM) (a0 : Nat) (x1 : Int32) (x3 : Int32) : Option (zM) :=
  zlt (zup M a0 15 x1) fun M4 =>
  zlt (zup M4 a0 16 x3) fun M5 =>
  some M5
set_option maxRecDepth 4000 in
theorem ok_j_X12_wrong_46 {G : zG} {K : zK} {R : zR} {M : zM} {L : zL} (hW : zWT R K) {a0 : Nat} {x1 : Int32} {x3 : Int32} (k_a0 : K[a0]? = some (12, 61)) {M' : zM} (h : j_X12_wrong_46 R M a0 x1 x3 = some M') : Rn G mt_X12_wrong 46 [(0, .ref a0), (1, .int x1), (3, .int x3)] [] (M, L, R, K) none (M', L, R, K) := by
  unfold j_X12_wrong_46 at h
  refine rn_aload_n (q := 0) 0 rfl zd_X12_wrong_1.2.1.1.2 ?_
  refine rn_iload_n (q := 1) 1 rfl zd_X12_wrong_1.2.1.2.1 ?_
  obtain ⟨M4, hM4, h⟩ := zlt_e h
  refine rn_putI hM4 zf_X12_191 k_a0 zd_X12_wrong_1.2.1.2.2 ?_
  refine rn_aload_n (q := 0) 0 rfl zd_X12_wrong_1.2.2.1.1 ?_
  refine rn_iload_n (q := 3) 2 rfl zd_X12_wrong_1.2.2.1.2 ?_
  obtain ⟨M5, hM5, h⟩ := zlt_e h
  refine rn_putI hM5 zf_X12_194 k_a0 zd_X12_wrong_1.2.2.2.1 ?_
  cases h
  exact rn_vret zd_X12_wrong_1.2.2.2.2 rfl
def f_X12_wrong (R : zR) (M : zM) (a0 : Nat) (x1 : Int32) (x2 : Int32) : Option (zM) :=
  zck (zin x2 403) <|
  if 0 < (M a0 13) then (
    some M
  ) else (
    if (M a0 15) = 0 then (
      j_X12_wrong_46 R M a0 x1 (M (R a0 6) (ztn x2))
    ) else (
      if (M a0 16) < (M (R a0 6) (ztn x2)) then (
        some M
      ) else (
        if (M (R a0 6) (ztn x2)) = (M a0 16) then (
          if x1 < (M a0 15) then (
            j_X12_wrong_46 R M a0 x1 (M (R a0 6) (ztn x2))
          ) else (
            some M
          )
        ) else (
          j_X12_wrong_46 R M a0 x1 (M (R a0 6) (ztn x2))
        )
      )
    )
  )
set_option maxRecDepth 4000 in
theorem ok_X12_wrong {G : zG} {K : zK} {R : zR} {M : zM} {L : zL} (hW : zWT R K) {a0 : Nat} {x1 : Int32} {x2 : Int32} (k_a0 : K[a0]? = some (12, 61)) {M' : zM} (h : f_X12_wrong R M a0 x1 x2 = some M') : Rm G mt_X12_wrong [.ref a0, .int x1, .int x2] (M, L, R, K) none (M', L, R, K) := by
  refine rm_rn rfl rfl (Nat.le_of_ble_eq_true rfl) ?_
  show Rn G mt_X12_wrong 0 [(0, .ref a0), (1, .int x1), (2, .int x2)] [] (M, L, R, K) none (M', L, R, K)
  unfold f_X12_wrong at h
  refine rn_aload_n (q := 0) 0 rfl zd_X12_wrong_0.1.1.1.1 ?_
  refine rn_getR zf_X12_24 (Or.inr ⟨_, rfl⟩) k_a0 (zx_12_6 hW k_a0) zd_X12_wrong_0.1.1.1.2 ?_
  refine rn_iload_n (q := 2) 2 rfl zd_X12_wrong_0.1.1.2.1 ?_
  obtain ⟨hc1, h⟩ := zck_e h
  refine rn_iald (zw_12_6 hW k_a0) hc1 zd_X12_wrong_0.1.1.2.2 ?_
  refine rn_istore_n (q := 3) (ls' := [(3, .int (M (R a0 6) (ztn x2))), (0, .ref a0), (1, .int x1), (2, .int x2)]) (by decide) rfl zd_X12_wrong_0.1.2.1.1 ?_
  refine rn_aload_n (q := 0) 1 rfl zd_X12_wrong_0.1.2.1.2 ?_
  refine rn_getI zf_X12_182 (Or.inl rfl) k_a0 zd_X12_wrong_0.1.2.2.1 ?_
  rcases zif_e h with ⟨hc2, h⟩ | ⟨hc2, h⟩
  · refine rn_if_gt_t (tgt := 45) hc2 zd_X12_wrong_0.1.2.2.2 rfl ?_
    cases h
    exact rn_vret zd_X12_wrong_1.2.1.1.1 rfl
  · refine rn_if_gt_f (tgt := 45) hc2 zd_X12_wrong_0.1.2.2.2 rfl ?_
    refine rn_aload_n (q := 0) 1 rfl zd_X12_wrong_0.2.1.1.1 ?_
    refine rn_getI zf_X12_191 (Or.inl rfl) k_a0 zd_X12_wrong_0.2.1.1.2 ?_
    rcases zif_e h with ⟨hc3, h⟩ | ⟨hc3, h⟩
    · refine rn_if_eq_t (tgt := 46) hc3 zd_X12_wrong_0.2.1.2.1 rfl ?_
      exact rn_sub (ls' := [(0, .ref a0), (1, .int x1), (3, .int (M (R a0 6) (ztn x2)))]) [1, 2, 0] rfl (ok_j_X12_wrong_46 hW k_a0 h)
    · refine rn_if_eq_f (tgt := 46) hc3 zd_X12_wrong_0.2.1.2.1 rfl ?_
      refine rn_iload_n (q := 3) 0 rfl zd_X12_wrong_0.2.1.2.2 ?_
      refine rn_aload_n (q := 0) 1 rfl zd_X12_wrong_0.2.2.1.1 ?_
      refine rn_getI zf_X12_194 (Or.inl rfl) k_a0 zd_X12_wrong_0.2.2.1.2 ?_
      rcases zif_e h with ⟨hc6, h⟩ | ⟨hc6, h⟩
      · refine rn_icmp_gt_t (tgt := 45) hc6 zd_X12_wrong_0.2.2.2.1 rfl ?_
        cases h
        exact rn_vret zd_X12_wrong_1.2.1.1.1 rfl
      · refine rn_icmp_gt_f (tgt := 45) hc6 zd_X12_wrong_0.2.2.2.1 rfl ?_
        refine rn_iload_n (q := 3) 0 rfl zd_X12_wrong_0.2.2.2.2 ?_
        refine rn_aload_n (q := 0) 1 rfl zd_X12_wrong_1.1.1.1 ?_
        refine rn_getI zf_X12_194 (Or.inl rfl) k_a0 zd_X12_wrong_1.1.1.2.1 ?_
        rcases zif_e h with ⟨hc7, h⟩ | ⟨hc7, h⟩
        · refine rn_icmp_ne_f (tgt := 46) hc7 zd_X12_wrong_1.1.1.2.2 rfl ?_
          refine rn_iload_n (q := 1) 2 rfl zd_X12_wrong_1.1.2.1.1 ?_
          refine rn_aload_n (q := 0) 1 rfl zd_X12_wrong_1.1.2.1.2 ?_
          refine rn_getI zf_X12_191 (Or.inl rfl) k_a0 zd_X12_wrong_1.1.2.2.1 ?_
          rcases zif_e h with ⟨hc8, h⟩ | ⟨hc8, h⟩
          · refine rn_icmp_lt_t (tgt := 46) hc8 zd_X12_wrong_1.1.2.2.2 rfl ?_
            exact rn_sub (ls' := [(0, .ref a0), (1, .int x1), (3, .int (M (R a0 6) (ztn x2)))]) [1, 2, 0] rfl (ok_j_X12_wrong_46 hW k_a0 h)
          · refine rn_icmp_lt_f (tgt := 46) hc8 zd_X12_wrong_1.1.2.2.2 rfl ?_
            cases h
            exact rn_vret zd_X12_wrong_1.2.1.1.1 rfl
        · refine rn_icmp_ne_t (tgt := 46) hc7 zd_X12_wrong_1.1.1.2.2 rfl ?_
          exact rn_sub (ls' := [(0, .ref a0), (1, .int x1), (3, .int (M (R a0 6) (ztn x2)))]) [1, 2, 0] rfl (ok_j_X12_wrong_46 hW k_a0 h)
def f_X12_goesOn (R : zR) (M : zM) (a0 : Nat) : Option (zM) :=
  if (M a0 11) = (400 : Int32) then (
    zbd (f_X12_fail R M a0 (2 : Int32)) fun M3 =>
    some M3
  ) else (
    zlt (zup M a0 11 ((M a0 11) + (1 : Int32))) fun M2 =>
    some M2
  )
set_option maxRecDepth 4000 in
theorem ok_X12_goesOn {G : zG} {K : zK} {R : zR} {M : zM} {L : zL} (hW : zWT R K) {a0 : Nat} (k_a0 : K[a0]? = some (12, 61)) {M' : zM} (h : f_X12_goesOn R M a0 = some M') : Rm G mt_X12_goesOn [.ref a0] (M, L, R, K) none (M', L, R, K) := by
  refine rm_rn rfl rfl (Nat.le_of_ble_eq_true rfl) ?_
  show Rn G mt_X12_goesOn 0 [(0, .ref a0)] [] (M, L, R, K) none (M', L, R, K)
  unfold f_X12_goesOn at h
  refine rn_aload_n (q := 0) 0 rfl zd_X12_goesOn_0.1.1.1 ?_
  refine rn_getI zf_X12_185 (Or.inl rfl) k_a0 zd_X12_goesOn_0.1.1.2.1 ?_
  refine rn_sipush (v := 400) zd_X12_goesOn_0.1.1.2.2 rfl ?_
  rcases zif_e h with ⟨hc1, h⟩ | ⟨hc1, h⟩
  · refine rn_icmp_ne_f (tgt := 18) hc1 zd_X12_goesOn_0.1.2.1.1 rfl ?_
    refine rn_aload_n (q := 0) 0 rfl zd_X12_goesOn_0.1.2.1.2 ?_
    refine rn_iconst (v := 2) zd_X12_goesOn_0.1.2.2.1 rfl ?_
    obtain ⟨M3, h4, h⟩ := zbd_e h
    refine rn_callVv (As := [.int (2 : Int32)]) (rest := []) zl_X12_197 zm_X12_fail ⟨by decide, by decide⟩ (ci := 12) rfl rfl (by decide) k_a0 rfl rfl (Nat.le_of_ble_eq_true rfl) zd_X12_goesOn_0.1.2.2.2 (ok_X12_fail hW k_a0 h4) ?_
    refine rn_goto (tgt := 28) zd_X12_goesOn_0.2.1.1.1 rfl ?_
    cases h
    exact rn_vret zd_X12_goesOn_0.2.2.2.2 rfl
  · refine rn_icmp_ne_t (tgt := 18) hc1 zd_X12_goesOn_0.1.2.1.1 rfl ?_
    refine rn_aload_n (q := 0) 0 rfl zd_X12_goesOn_0.2.1.1.2 ?_
    refine rn_dup zd_X12_goesOn_0.2.1.2.1 rfl ?_
    refine rn_getI zf_X12_185 (Or.inl rfl) k_a0 zd_X12_goesOn_0.2.1.2.2 ?_
    refine rn_iconst (v := 1) zd_X12_goesOn_0.2.2.1.1 rfl ?_
    refine rn_iadd zd_X12_goesOn_0.2.2.1.2 ?_
    obtain ⟨M2, hM2, h⟩ := zlt_e h
    refine rn_putI hM2 zf_X12_185 k_a0 zd_X12_goesOn_0.2.2.2.1 ?_
    cases h
    exact rn_vret zd_X12_goesOn_0.2.2.2.2 rfl
def f_X12_must (R : zR) (M : zM) (a0 : Nat) (x1 : Int32) : Option (zM) :=
  zbd (f_X12_is R M a0 x1) fun r1 =>
  if r1 = 0 then (
    zbd (f_X12_fail R M a0 (1 : Int32)) fun M4 =>
    some M4
  ) else (
    zbd (f_X12_goesOn R M a0) fun M6 =>
    some M6
  )
set_option maxRecDepth 4000 in
theorem ok_X12_must {G : zG} {K : zK} {R : zR} {M : zM} {L : zL} (hW : zWT R K) {a0 : Nat} {x1 : Int32} (k_a0 : K[a0]? = some (12, 61)) {M' : zM} (h : f_X12_must R M a0 x1 = some M') : Rm G mt_X12_must [.ref a0, .int x1] (M, L, R, K) none (M', L, R, K) := by
  refine rm_rn rfl rfl (Nat.le_of_ble_eq_true rfl) ?_
  show Rn G mt_X12_must 0 [(0, .ref a0), (1, .int x1)] [] (M, L, R, K) none (M', L, R, K)
  unfold f_X12_must at h
  refine rn_aload_n (q := 0) 0 rfl zd_X12_must_0.1.1.1 ?_
  refine rn_iload_n (q := 1) 1 rfl zd_X12_must_0.1.1.2 ?_
  obtain ⟨r1, h2, h⟩ := zbd_e h
  refine rn_callVi (As := [.int x1]) (rest := []) zl_X12_200 zm_X12_is ⟨by decide, by decide⟩ (ci := 12) rfl rfl (by decide) k_a0 rfl rfl (Nat.le_of_ble_eq_true rfl) zd_X12_must_0.1.2.1 (ok_X12_is hW k_a0 h2) ?_
  rcases zif_e h with ⟨hc3, h⟩ | ⟨hc3, h⟩
  · refine rn_if_eq_t (tgt := 15) hc3 zd_X12_must_0.1.2.2.1 rfl ?_
    refine rn_aload_n (q := 0) 0 rfl zd_X12_must_0.2.1.2.2 ?_
    refine rn_iconst (v := 1) zd_X12_must_0.2.2.1 rfl ?_
    obtain ⟨M4, h5, h⟩ := zbd_e h
    refine rn_callVv (As := [.int (1 : Int32)]) (rest := []) zl_X12_197 zm_X12_fail ⟨by decide, by decide⟩ (ci := 12) rfl rfl (by decide) k_a0 rfl rfl (Nat.le_of_ble_eq_true rfl) zd_X12_must_0.2.2.2.1 (ok_X12_fail hW k_a0 h5) ?_
    cases h
    exact rn_vret zd_X12_must_0.2.2.2.2 rfl
  · refine rn_if_eq_f (tgt := 15) hc3 zd_X12_must_0.1.2.2.1 rfl ?_
    refine rn_aload_n (q := 0) 0 rfl zd_X12_must_0.1.2.2.2 ?_
    obtain ⟨M6, h7, h⟩ := zbd_e h
    refine rn_callVv (As := []) (rest := []) zl_X12_203 zm_X12_goesOn ⟨by decide, by decide⟩ (ci := 12) rfl rfl (by decide) k_a0 rfl rfl (Nat.le_of_ble_eq_true rfl) zd_X12_must_0.2.1.1 (ok_X12_goesOn hW k_a0 h7) ?_
    refine rn_goto (tgt := 20) zd_X12_must_0.2.1.2.1 rfl ?_
    cases h
    exact rn_vret zd_X12_must_0.2.2.2.2 rfl
def j_X12_bounded_15 (R : zR) (M : zM) (a0 : Nat) (x1 : Int32) : Option (Int32 × zM) :=
  zbd (f_X12_fail R M a0 (1 : Int32)) fun M2 =>
  some (x1, M2)
set_option maxRecDepth 4000 in
theorem ok_j_X12_bounded_15 {G : zG} {K : zK} {R : zR} {M : zM} {L : zL} (hW : zWT R K) {a0 : Nat} {x1 : Int32} (k_a0 : K[a0]? = some (12, 61)) {r' : Int32} {M' : zM} (h : j_X12_bounded_15 R M a0 x1 = some (r', M')) : Rn G mt_X12_bounded 15 [(0, .ref a0), (1, .int x1)] [] (M, L, R, K) (some (.int r')) (M', L, R, K) := by
  unfold j_X12_bounded_15 at h
  refine rn_aload_n (q := 0) 0 rfl zd_X12_bounded_0.1.2.2.2 ?_
  refine rn_iconst (v := 1) zd_X12_bounded_0.2.1.1.1 rfl ?_
  obtain ⟨M2, h3, h⟩ := zbd_e h
  refine rn_callVv (As := [.int (1 : Int32)]) (rest := []) zl_X12_197 zm_X12_fail ⟨by decide, by decide⟩ (ci := 12) rfl rfl (by decide) k_a0 rfl rfl (Nat.le_of_ble_eq_true rfl) zd_X12_bounded_0.2.1.1.2 (ok_X12_fail hW k_a0 h3) ?_
  refine rn_iload_n (q := 1) 1 rfl zd_X12_bounded_0.2.1.2.1 ?_
  cases h
  exact rn_iret zd_X12_bounded_0.2.1.2.2 rfl
def j_X12_bounded_51 (R : zR) (M : zM) (a0 : Nat) (x3 : Int32) : Option (Int32 × zM) :=
  zbd (f_X12_goesOn R M a0) fun M11 =>
  some (x3, M11)
set_option maxRecDepth 4000 in
theorem ok_j_X12_bounded_51 {G : zG} {K : zK} {R : zR} {M : zM} {L : zL} (hW : zWT R K) {a0 : Nat} {x3 : Int32} (k_a0 : K[a0]? = some (12, 61)) {r' : Int32} {M' : zM} (h : j_X12_bounded_51 R M a0 x3 = some (r', M')) : Rn G mt_X12_bounded 51 [(0, .ref a0), (3, .int x3)] [] (M, L, R, K) (some (.int r')) (M', L, R, K) := by
  unfold j_X12_bounded_51 at h
  refine rn_aload_n (q := 0) 0 rfl zd_X12_bounded_1.2.2.1.2 ?_
  obtain ⟨M11, h12, h⟩ := zbd_e h
  refine rn_callVv (As := []) (rest := []) zl_X12_203 zm_X12_goesOn ⟨by decide, by decide⟩ (ci := 12) rfl rfl (by decide) k_a0 rfl rfl (Nat.le_of_ble_eq_true rfl) zd_X12_bounded_1.2.2.2.1 (ok_X12_goesOn hW k_a0 h12) ?_
  refine rn_iload_n (q := 3) 1 rfl zd_X12_bounded_1.2.2.2.2 ?_
  cases h
  exact rn_iret zd_X12_bounded_2 rfl
def j_X12_bounded_42 (R : zR) (M : zM) (a0 : Nat) (x3 : Int32) : Option (Int32 × zM) :=
  zbd (f_X12_wrong R M a0 (5 : Int32) (M a0 11)) fun M9 =>
  j_X12_bounded_51 R M9 a0 x3
set_option maxRecDepth 4000 in
theorem ok_j_X12_bounded_42 {G : zG} {K : zK} {R : zR} {M : zM} {L : zL} (hW : zWT R K) {a0 : Nat} {x3 : Int32} (k_a0 : K[a0]? = some (12, 61)) {r' : Int32} {M' : zM} (h : j_X12_bounded_42 R M a0 x3 = some (r', M')) : Rn G mt_X12_bounded 42 [(0, .ref a0), (3, .int x3)] [] (M, L, R, K) (some (.int r')) (M', L, R, K) := by
  unfold j_X12_bounded_42 at h
  refine rn_aload_n (q := 0) 0 rfl zd_X12_bounded_1.2.1.1.1 ?_
  refine rn_iconst (v := 5) zd_X12_bounded_1.2.1.1.2 rfl ?_
  refine rn_aload_n (q := 0) 0 rfl zd_X12_bounded_1.2.1.2.1 ?_
  refine rn_getI zf_X12_185 (Or.inl rfl) k_a0 zd_X12_bounded_1.2.1.2.2 ?_
  obtain ⟨M9, h10, h⟩ := zbd_e h
  refine rn_callVv (As := [.int (5 : Int32), .int (M a0 11)]) (rest := []) zl_X12_249 zm_X12_wrong ⟨by decide, by decide⟩ (ci := 12) rfl rfl (by decide) k_a0 rfl rfl (Nat.le_of_ble_eq_true rfl) zd_X12_bounded_1.2.2.1.1 (ok_X12_wrong hW k_a0 h10) ?_
  exact rn_sub (ls' := [(0, .ref a0), (3, .int x3)]) [0, 1] rfl (ok_j_X12_bounded_51 hW k_a0 h)
def f_X12_bounded (R : zR) (M : zM) (a0 : Nat) (x1 : Int32) (x2 : Int32) : Option (Int32 × zM) :=
  if 0 < (M a0 13) then (
    j_X12_bounded_15 R M a0 x1
  ) else (
    zbd (f_X12_is R M a0 (2 : Int32)) fun r4 =>
    if r4 = 0 then (
      j_X12_bounded_15 R M a0 x1
    ) else (
      zck (zin (M a0 11) 403) <|
      if (M (R a0 7) (ztn (M a0 11))) < x1 then (
        j_X12_bounded_42 R M a0 (M (R a0 7) (ztn (M a0 11)))
      ) else (
        if (M (R a0 7) (ztn (M a0 11))) ≤ x2 then (
          j_X12_bounded_51 R M a0 (M (R a0 7) (ztn (M a0 11)))
        ) else (
          j_X12_bounded_42 R M a0 (M (R a0 7) (ztn (M a0 11)))
        )
      )
    )
  )
set_option maxRecDepth 4000 in
theorem ok_X12_bounded {G : zG} {K : zK} {R : zR} {M : zM} {L : zL} (hW : zWT R K) {a0 : Nat} {x1 : Int32} {x2 : Int32} (k_a0 : K[a0]? = some (12, 61)) {r' : Int32} {M' : zM} (h : f_X12_bounded R M a0 x1 x2 = some (r', M')) : Rm G mt_X12_bounded [.ref a0, .int x1, .int x2] (M, L, R, K) (some (.int r')) (M', L, R, K) := by
  refine rm_rn rfl rfl (Nat.le_of_ble_eq_true rfl) ?_
  show Rn G mt_X12_bounded 0 [(0, .ref a0), (1, .int x1), (2, .int x2)] [] (M, L, R, K) (some (.int r')) (M', L, R, K)
  unfold f_X12_bounded at h
  refine rn_aload_n (q := 0) 0 rfl zd_X12_bounded_0.1.1.1.1 ?_
  refine rn_getI zf_X12_182 (Or.inl rfl) k_a0 zd_X12_bounded_0.1.1.1.2 ?_
  rcases zif_e h with ⟨hc1, h⟩ | ⟨hc1, h⟩
  · refine rn_if_gt_t (tgt := 15) hc1 zd_X12_bounded_0.1.1.2.1 rfl ?_
    exact rn_sub (ls' := [(0, .ref a0), (1, .int x1)]) [0, 1] rfl (ok_j_X12_bounded_15 hW k_a0 h)
  · refine rn_if_gt_f (tgt := 15) hc1 zd_X12_bounded_0.1.1.2.1 rfl ?_
    refine rn_aload_n (q := 0) 0 rfl zd_X12_bounded_0.1.1.2.2 ?_
    refine rn_iconst (v := 2) zd_X12_bounded_0.1.2.1.1 rfl ?_
    obtain ⟨r4, h5, h⟩ := zbd_e h
    refine rn_callVi (As := [.int (2 : Int32)]) (rest := []) zl_X12_200 zm_X12_is ⟨by decide, by decide⟩ (ci := 12) rfl rfl (by decide) k_a0 rfl rfl (Nat.le_of_ble_eq_true rfl) zd_X12_bounded_0.1.2.1.2 (ok_X12_is hW k_a0 h5) ?_
    rcases zif_e h with ⟨hc6, h⟩ | ⟨hc6, h⟩
    · refine rn_if_ne_f (tgt := 22) hc6 zd_X12_bounded_0.1.2.2.1 rfl ?_
      exact rn_sub (ls' := [(0, .ref a0), (1, .int x1)]) [0, 1] rfl (ok_j_X12_bounded_15 hW k_a0 h)
    · refine rn_if_ne_t (tgt := 22) hc6 zd_X12_bounded_0.1.2.2.1 rfl ?_
      refine rn_aload_n (q := 0) 0 rfl zd_X12_bounded_0.2.2.1.1 ?_
      refine rn_getR zf_X12_27 (Or.inr ⟨_, rfl⟩) k_a0 (zx_12_7 hW k_a0) zd_X12_bounded_0.2.2.1.2 ?_
      refine rn_aload_n (q := 0) 0 rfl zd_X12_bounded_0.2.2.2.1 ?_
      refine rn_getI zf_X12_185 (Or.inl rfl) k_a0 zd_X12_bounded_0.2.2.2.2 ?_
      obtain ⟨hc7, h⟩ := zck_e h
      refine rn_iald (zw_12_7 hW k_a0) hc7 zd_X12_bounded_1.1.1.1.1 ?_
      refine rn_istore_n (q := 3) (ls' := [(3, .int (M (R a0 7) (ztn (M a0 11)))), (0, .ref a0), (1, .int x1), (2, .int x2)]) (by decide) rfl zd_X12_bounded_1.1.1.1.2 ?_
      refine rn_iload_n (q := 3) 0 rfl zd_X12_bounded_1.1.1.2.1 ?_
      refine rn_iload_n (q := 1) 2 rfl zd_X12_bounded_1.1.1.2.2 ?_
      rcases zif_e h with ⟨hc8, h⟩ | ⟨hc8, h⟩
      · refine rn_icmp_lt_t (tgt := 42) hc8 zd_X12_bounded_1.1.2.1.1 rfl ?_
        exact rn_sub (ls' := [(0, .ref a0), (3, .int (M (R a0 7) (ztn (M a0 11))))]) [1, 0] rfl (ok_j_X12_bounded_42 hW k_a0 h)
      · refine rn_icmp_lt_f (tgt := 42) hc8 zd_X12_bounded_1.1.2.1.1 rfl ?_
        refine rn_iload_n (q := 3) 0 rfl zd_X12_bounded_1.1.2.1.2 ?_
        refine rn_iload_n (q := 2) 3 rfl zd_X12_bounded_1.1.2.2.1 ?_
        rcases zif_e h with ⟨hc13, h⟩ | ⟨hc13, h⟩
        · refine rn_icmp_le_t (tgt := 51) hc13 zd_X12_bounded_1.1.2.2.2 rfl ?_
          exact rn_sub (ls' := [(0, .ref a0), (3, .int (M (R a0 7) (ztn (M a0 11))))]) [1, 0] rfl (ok_j_X12_bounded_51 hW k_a0 h)
        · refine rn_icmp_le_f (tgt := 51) hc13 zd_X12_bounded_1.1.2.2.2 rfl ?_
          exact rn_sub (ls' := [(0, .ref a0), (3, .int (M (R a0 7) (ztn (M a0 11))))]) [1, 0] rfl (ok_j_X12_bounded_42 hW k_a0 h)
abbrev P_X12_tellHouse_16 (G : zG) (K : zK) (R : zR) (L : zL) (a0 : Nat) (x1 : Int32) (r : Option Value) (S' : zS) (v : Int32 × zM) : Prop := Rn G mt_X12_tellHouse 16 [(0, .ref a0), (1, .int x1), (2, .int v.1)] [] (v.2, L, R, K) r S'
abbrev Q_X12_tellHouse_16 (G : zG) (K : zK) (R : zR) (L : zL) (a0 : Nat) (x1 : Int32) (r : Option Value) (S' : zS) : (zM) → Prop := (fun e => Rn G mt_X12_tellHouse 59 [(0, .ref a0), (1, .int x1)] [] (e, L, R, K) r S')
def b_X12_tellHouse_16 (R : zR) (M : zM) (L : zL) (a0 : Nat) (x1 : Int32) (x2 : Int32) : Option ((Int32 × zM) ⊕ ((zM))) :=
  if (M a0 20) ≤ x2 then (
    some (.inr M)
  ) else (
    if (M a0 13) = 0 then (
      zck (zin x2 10) <|
      zck (zin x1 403) <|
      if (lg_cmp (L (R a0 21) (ztn x2)) (L (R a0 8) (ztn x1))) = 0 then (
        zbd (f_X12_wrong R M a0 (3 : Int32) x1) fun M10 =>
        some (.inl ((x2 + 1), M10))
      ) else (
        some (.inl ((x2 + 1), M))
      )
    ) else (
      some (.inr M)
    )
  )
set_option maxRecDepth 4000 in
theorem ok_b_X12_tellHouse_16 {G : zG} {K : zK} {R : zR} {M : zM} {L : zL} (hW : zWT R K) {a0 : Nat} {x1 : Int32} {x2 : Int32} (k_a0 : K[a0]? = some (12, 61)) {r : Option Value} {S' : zS} {x : (Int32 × zM) ⊕ ((zM))} (h : b_X12_tellHouse_16 R M L a0 x1 x2 = some x) (hk : Sum.elim (P_X12_tellHouse_16 G K R L a0 x1 r S') (Q_X12_tellHouse_16 G K R L a0 x1 r S') x) : P_X12_tellHouse_16 G K R L a0 x1 r S' (x2, M) := by
  show Rn G mt_X12_tellHouse 16 [(0, .ref a0), (1, .int x1), (2, .int x2)] [] (M, L, R, K) r S'
  unfold b_X12_tellHouse_16 at h
  refine rn_iload_n (q := 2) 2 rfl zd_X12_tellHouse_0.2.1.2.1 ?_
  refine rn_aload_n (q := 0) 0 rfl zd_X12_tellHouse_0.2.1.2.2 ?_
  refine rn_getI zf_X12_218 (Or.inl rfl) k_a0 zd_X12_tellHouse_0.2.2.1.1 ?_
  rcases zif_e h with ⟨hc5, h⟩ | ⟨hc5, h⟩
  · refine rn_icmp_ge_t (tgt := 59) hc5 zd_X12_tellHouse_0.2.2.1.2 rfl ?_
    cases h
    exact rn_sub (ls' := [(0, .ref a0), (1, .int x1)]) [0, 1] rfl hk
  · refine rn_icmp_ge_f (tgt := 59) hc5 zd_X12_tellHouse_0.2.2.1.2 rfl ?_
    refine rn_aload_n (q := 0) 0 rfl zd_X12_tellHouse_0.2.2.2.1 ?_
    refine rn_getI zf_X12_182 (Or.inl rfl) k_a0 zd_X12_tellHouse_0.2.2.2.2 ?_
    rcases zif_e h with ⟨hc6, h⟩ | ⟨hc6, h⟩
    · refine rn_if_ne_f (tgt := 59) hc6 zd_X12_tellHouse_1.1.1.1.1 rfl ?_
      refine rn_aload_n (q := 0) 0 rfl zd_X12_tellHouse_1.1.1.1.2 ?_
      refine rn_getR zf_X12_40 (Or.inr ⟨_, rfl⟩) k_a0 (zx_12_21 hW k_a0) zd_X12_tellHouse_1.1.1.2.1 ?_
      refine rn_iload_n (q := 2) 2 rfl zd_X12_tellHouse_1.1.1.2.2 ?_
      obtain ⟨hc7, h⟩ := zck_e h
      refine rn_lald (zw_12_21 hW k_a0) hc7 zd_X12_tellHouse_1.1.2.1.1 ?_
      refine rn_aload_n (q := 0) 0 rfl zd_X12_tellHouse_1.1.2.1.2 ?_
      refine rn_getR zf_X12_30 (Or.inr ⟨_, rfl⟩) k_a0 (zx_12_8 hW k_a0) zd_X12_tellHouse_1.1.2.2.1 ?_
      refine rn_iload_n (q := 1) 1 rfl zd_X12_tellHouse_1.1.2.2.2 ?_
      obtain ⟨hc8, h⟩ := zck_e h
      refine rn_lald (zw_12_8 hW k_a0) hc8 zd_X12_tellHouse_1.2.1.1.1 ?_
      refine rn_lcmp zd_X12_tellHouse_1.2.1.1.2 ?_
      rcases zif_e h with ⟨hc9, h⟩ | ⟨hc9, h⟩
      · refine rn_if_ne_f (tgt := 53) hc9 zd_X12_tellHouse_1.2.1.2.1 rfl ?_
        refine rn_aload_n (q := 0) 0 rfl zd_X12_tellHouse_1.2.1.2.2 ?_
        refine rn_iconst (v := 3) zd_X12_tellHouse_1.2.2.1.1 rfl ?_
        refine rn_iload_n (q := 1) 1 rfl zd_X12_tellHouse_1.2.2.1.2 ?_
        obtain ⟨M10, h11, h⟩ := zbd_e h
        refine rn_callVv (As := [.int (3 : Int32), .int x1]) (rest := []) zl_X12_249 zm_X12_wrong ⟨by decide, by decide⟩ (ci := 12) rfl rfl (by decide) k_a0 rfl rfl (Nat.le_of_ble_eq_true rfl) zd_X12_tellHouse_1.2.2.2.1 (ok_X12_wrong hW k_a0 h11) ?_
        refine rn_iinc (v := (x2 + 1)) (ls' := [(2, .int (x2 + 1)), (0, .ref a0), (1, .int x1)]) 2 rfl rfl (by decide) rfl zd_X12_tellHouse_1.2.2.2.2 ?_
        refine rn_goto (tgt := 16) zd_X12_tellHouse_2.1.1.1.1 rfl ?_
        cases h
        exact rn_sub (ls' := [(0, .ref a0), (1, .int x1), (2, .int (x2 + 1))]) [1, 2, 0] rfl hk
      · refine rn_if_ne_t (tgt := 53) hc9 zd_X12_tellHouse_1.2.1.2.1 rfl ?_
        refine rn_iinc (v := (x2 + 1)) (ls' := [(2, .int (x2 + 1)), (0, .ref a0), (1, .int x1)]) 2 rfl rfl (by decide) rfl zd_X12_tellHouse_1.2.2.2.2 ?_
        refine rn_goto (tgt := 16) zd_X12_tellHouse_2.1.1.1.1 rfl ?_
        cases h
        exact rn_sub (ls' := [(0, .ref a0), (1, .int x1), (2, .int (x2 + 1))]) [1, 2, 0] rfl hk
    · refine rn_if_ne_t (tgt := 59) hc6 zd_X12_tellHouse_1.1.1.1.1 rfl ?_
      cases h
      exact rn_sub (ls' := [(0, .ref a0), (1, .int x1)]) [0, 1] rfl hk
def f_X12_tellHouse (R : zR) (M : zM) (L : zL) (a0 : Nat) : Option (zM × zL) :=
  zbd (f_X12_goesOn R M a0) fun M1 =>
  zbd (f_X12_must R M1 a0 (1 : Int32)) fun M3 =>
  zbd (zloop zN (fun v => b_X12_tellHouse_16 R v.2 L a0 (M1 a0 11) v.1) ((0 : Int32), M3)) fun e12 =>
  zck (zin (e12 a0 19) 2) <|
  zbd2 (f_X12_bounded R e12 a0 (0 : Int32) (9999 : Int32)) fun r14 M15 =>
  zck (zin (((10 : Int32) * (e12 a0 19)) + (e12 (R a0 22) (ztn (e12 a0 19)))) 20) <|
  zlt (zup M15 (R a0 23) (ztn (((10 : Int32) * (e12 a0 19)) + (e12 (R a0 22) (ztn (e12 a0 19))))) r14) fun M18 =>
  zbd (f_X12_must R M18 a0 (4 : Int32)) fun M19 =>
  if (M19 a0 13) ≤ 0 then (
    zck (zin (M1 a0 11) 403) <|
    zck (zin (M19 a0 20) 10) <|
    zlt (zupL L (R a0 21) (ztn (M19 a0 20)) (L (R a0 8) (ztn (M1 a0 11)))) fun L24 =>
    zlt (zup M19 a0 20 ((M19 a0 20) + (1 : Int32))) fun M25 =>
    zck (zin (M25 a0 19) 2) <|
    zck (zin (M25 a0 19) 2) <|
    zlt (zup M25 (R a0 22) (ztn (M25 a0 19)) ((M25 (R a0 22) (ztn (M25 a0 19))) + (1 : Int32))) fun M28 =>
    some (M28, L24)
  ) else (
    some (M19, L)
  )
set_option maxRecDepth 4000 in
theorem ok_X12_tellHouse {G : zG} {K : zK} {R : zR} {M : zM} {L : zL} (hW : zWT R K) {a0 : Nat} (k_a0 : K[a0]? = some (12, 61)) {M' : zM} {L' : zL} (h : f_X12_tellHouse R M L a0 = some (M', L')) : Rm G mt_X12_tellHouse [.ref a0] (M, L, R, K) none (M', L', R, K) := by
  refine rm_rn rfl rfl (Nat.le_of_ble_eq_true rfl) ?_
  show Rn G mt_X12_tellHouse 0 [(0, .ref a0)] [] (M, L, R, K) none (M', L', R, K)
  unfold f_X12_tellHouse at h
  refine rn_aload_n (q := 0) 0 rfl zd_X12_tellHouse_0.1.1.1.1 ?_
  obtain ⟨M1, h2, h⟩ := zbd_e h
  refine rn_callVv (As := []) (rest := []) zl_X12_203 zm_X12_goesOn ⟨by decide, by decide⟩ (ci := 12) rfl rfl (by decide) k_a0 rfl rfl (Nat.le_of_ble_eq_true rfl) zd_X12_tellHouse_0.1.1.1.2 (ok_X12_goesOn hW k_a0 h2) ?_
  refine rn_aload_n (q := 0) 0 rfl zd_X12_tellHouse_0.1.1.2.1 ?_
  refine rn_getI zf_X12_185 (Or.inl rfl) k_a0 zd_X12_tellHouse_0.1.1.2.2 ?_
  refine rn_istore_n (q := 1) (ls' := [(1, .int (M1 a0 11)), (0, .ref a0)]) (by decide) rfl zd_X12_tellHouse_0.1.2.1.1 ?_
  refine rn_aload_n (q := 0) 1 rfl zd_X12_tellHouse_0.1.2.1.2 ?_
  refine rn_iconst (v := 1) zd_X12_tellHouse_0.1.2.2.1 rfl ?_
  obtain ⟨M3, h4, h⟩ := zbd_e h
  refine rn_callVv (As := [.int (1 : Int32)]) (rest := []) zl_X12_239 zm_X12_must ⟨by decide, by decide⟩ (ci := 12) rfl rfl (by decide) k_a0 rfl rfl (Nat.le_of_ble_eq_true rfl) zd_X12_tellHouse_0.1.2.2.2 (ok_X12_must hW k_a0 h4) ?_
  refine rn_iconst (v := 0) zd_X12_tellHouse_0.2.1.1.1 rfl ?_
  refine rn_istore_n (q := 2) (ls' := [(2, .int (0 : Int32)), (1, .int (M1 a0 11)), (0, .ref a0)]) (by decide) rfl zd_X12_tellHouse_0.2.1.1.2 ?_
  obtain ⟨e12, he12, h⟩ := zbd_e h
  refine rn_sub (ls' := [(0, .ref a0), (1, .int (M1 a0 11)), (2, .int (0 : Int32))]) [2, 1, 0] rfl (zloop_ok (P := P_X12_tellHouse_16 G K R L a0 (M1 a0 11) none (M', L', R, K)) (Q := Q_X12_tellHouse_16 G K R L a0 (M1 a0 11) none (M', L', R, K)) (fun v x hx hq => ok_b_X12_tellHouse_16 hW k_a0 hx hq) _ _ _ he12 ?_)
  show Rn G mt_X12_tellHouse 59 [(0, .ref a0), (1, .int (M1 a0 11))] [] (e12, L, R, K) none (M', L', R, K)
  refine rn_aload_n (q := 0) 0 rfl zd_X12_tellHouse_2.1.1.1.2 ?_
  refine rn_getR zf_X12_46 (Or.inr ⟨_, rfl⟩) k_a0 (zx_12_23 hW k_a0) zd_X12_tellHouse_2.1.1.2.1 ?_
  refine rn_bipush (v := 10) zd_X12_tellHouse_2.1.1.2.2 rfl ?_
  refine rn_aload_n (q := 0) 0 rfl zd_X12_tellHouse_2.1.2.1.1 ?_
  refine rn_getI zf_X12_215 (Or.inl rfl) k_a0 zd_X12_tellHouse_2.1.2.1.2 ?_
  refine rn_imul zd_X12_tellHouse_2.1.2.2.1 ?_
  refine rn_aload_n (q := 0) 0 rfl zd_X12_tellHouse_2.1.2.2.2 ?_
  refine rn_getR zf_X12_43 (Or.inr ⟨_, rfl⟩) k_a0 (zx_12_22 hW k_a0) zd_X12_tellHouse_2.2.1.1.1 ?_
  refine rn_aload_n (q := 0) 0 rfl zd_X12_tellHouse_2.2.1.1.2 ?_
  refine rn_getI zf_X12_215 (Or.inl rfl) k_a0 zd_X12_tellHouse_2.2.1.2.1 ?_
  obtain ⟨hc13, h⟩ := zck_e h
  refine rn_iald (zw_12_22 hW k_a0) hc13 zd_X12_tellHouse_2.2.1.2.2 ?_
  refine rn_iadd zd_X12_tellHouse_2.2.2.1.1 ?_
  refine rn_aload_n (q := 0) 0 rfl zd_X12_tellHouse_2.2.2.1.2 ?_
  refine rn_iconst (v := 0) zd_X12_tellHouse_2.2.2.2.1 rfl ?_
  refine rn_sipush (v := 9999) zd_X12_tellHouse_2.2.2.2.2 rfl ?_
  obtain ⟨r14, M15, h16, h⟩ := zbd2_e h
  refine rn_callVi (As := [.int (0 : Int32), .int (9999 : Int32)]) (rest := [.int (((10 : Int32) * (e12 a0 19)) + (e12 (R a0 22) (ztn (e12 a0 19)))), .ref (R a0 23)]) zl_X12_245 zm_X12_bounded ⟨by decide, by decide⟩ (ci := 12) rfl rfl (by decide) k_a0 rfl rfl (Nat.le_of_ble_eq_true rfl) zd_X12_tellHouse_3.1.1.1.1 (ok_X12_bounded hW k_a0 h16) ?_
  obtain ⟨hc17, h⟩ := zck_e h
  obtain ⟨M18, hM18, h⟩ := zlt_e h
  refine rn_iast hM18 (zw_12_23 hW k_a0) hc17 zd_X12_tellHouse_3.1.1.1.2 ?_
  refine rn_aload_n (q := 0) 0 rfl zd_X12_tellHouse_3.1.1.2.1 ?_
  refine rn_iconst (v := 4) zd_X12_tellHouse_3.1.1.2.2 rfl ?_
  obtain ⟨M19, h20, h⟩ := zbd_e h
  refine rn_callVv (As := [.int (4 : Int32)]) (rest := []) zl_X12_239 zm_X12_must ⟨by decide, by decide⟩ (ci := 12) rfl rfl (by decide) k_a0 rfl rfl (Nat.le_of_ble_eq_true rfl) zd_X12_tellHouse_3.1.2.1.1 (ok_X12_must hW k_a0 h20) ?_
  refine rn_aload_n (q := 0) 0 rfl zd_X12_tellHouse_3.1.2.1.2 ?_
  refine rn_getI zf_X12_182 (Or.inl rfl) k_a0 zd_X12_tellHouse_3.1.2.2.1 ?_
  rcases zif_e h with ⟨hc21, h⟩ | ⟨hc21, h⟩
  · refine rn_if_le_t (tgt := 102) hc21 zd_X12_tellHouse_3.1.2.2.2 rfl ?_
    refine rn_aload_n (q := 0) 0 rfl zd_X12_tellHouse_3.2.1.1.2 ?_
    refine rn_getR zf_X12_40 (Or.inr ⟨_, rfl⟩) k_a0 (zx_12_21 hW k_a0) zd_X12_tellHouse_3.2.1.2.1 ?_
    refine rn_aload_n (q := 0) 0 rfl zd_X12_tellHouse_3.2.1.2.2 ?_
    refine rn_getI zf_X12_218 (Or.inl rfl) k_a0 zd_X12_tellHouse_3.2.2.1.1 ?_
    refine rn_aload_n (q := 0) 0 rfl zd_X12_tellHouse_3.2.2.1.2 ?_
    refine rn_getR zf_X12_30 (Or.inr ⟨_, rfl⟩) k_a0 (zx_12_8 hW k_a0) zd_X12_tellHouse_3.2.2.2.1 ?_
    refine rn_iload_n (q := 1) 1 rfl zd_X12_tellHouse_3.2.2.2.2 ?_
    obtain ⟨hc22, h⟩ := zck_e h
    refine rn_lald (zw_12_8 hW k_a0) hc22 zd_X12_tellHouse_4.1.1.1.1 ?_
    obtain ⟨hc23, h⟩ := zck_e h
    obtain ⟨L24, hL24, h⟩ := zlt_e h
    refine rn_last hL24 (zw_12_21 hW k_a0) hc23 zd_X12_tellHouse_4.1.1.1.2 ?_
    refine rn_aload_n (q := 0) 0 rfl zd_X12_tellHouse_4.1.1.2.1 ?_
    refine rn_dup zd_X12_tellHouse_4.1.1.2.2 rfl ?_
    refine rn_getI zf_X12_218 (Or.inl rfl) k_a0 zd_X12_tellHouse_4.1.2.1.1 ?_
    refine rn_iconst (v := 1) zd_X12_tellHouse_4.1.2.1.2 rfl ?_
    refine rn_iadd zd_X12_tellHouse_4.1.2.2.1 ?_
    obtain ⟨M25, hM25, h⟩ := zlt_e h
    refine rn_putI hM25 zf_X12_218 k_a0 zd_X12_tellHouse_4.1.2.2.2 ?_
    refine rn_aload_n (q := 0) 0 rfl zd_X12_tellHouse_4.2.1.1.1 ?_
    refine rn_getR zf_X12_43 (Or.inr ⟨_, rfl⟩) k_a0 (zx_12_22 hW k_a0) zd_X12_tellHouse_4.2.1.1.2 ?_
    refine rn_aload_n (q := 0) 0 rfl zd_X12_tellHouse_4.2.1.2.1 ?_
    refine rn_getI zf_X12_215 (Or.inl rfl) k_a0 zd_X12_tellHouse_4.2.1.2.2 ?_
    refine rn_dup2 zd_X12_tellHouse_4.2.2.1.1 rfl rfl ?_
    obtain ⟨hc26, h⟩ := zck_e h
    refine rn_iald (zw_12_22 hW k_a0) hc26 zd_X12_tellHouse_4.2.2.1.2 ?_
    refine rn_iconst (v := 1) zd_X12_tellHouse_4.2.2.2.1 rfl ?_
    refine rn_iadd zd_X12_tellHouse_4.2.2.2.2 ?_
    obtain ⟨hc27, h⟩ := zck_e h
    obtain ⟨M28, hM28, h⟩ := zlt_e h
    refine rn_iast hM28 (zw_12_22 hW k_a0) hc27 zd_X12_tellHouse_5.1 ?_
    cases h
    exact rn_vret zd_X12_tellHouse_5.2 rfl
  · refine rn_if_le_f (tgt := 102) hc21 zd_X12_tellHouse_3.1.2.2.2 rfl ?_
    cases h
    exact rn_vret zd_X12_tellHouse_3.2.1.1.1 rfl
def f_X12_emit (R : zR) (M : zM) (a0 : Nat) (x1 : Int32) (x2 : Int32) : Option (zM) :=
  zck (zin (M a0 37) 840) <|
  zlt (zup M (R a0 38) (ztn (M a0 37)) x1) fun M2 =>
  zck (zin (M2 a0 37) 840) <|
  zlt (zup M2 (R a0 39) (ztn (M2 a0 37)) x2) fun M4 =>
  zlt (zup M4 a0 37 ((M4 a0 37) + (1 : Int32))) fun M5 =>
  some M5
set_option maxRecDepth 4000 in
theorem ok_X12_emit {G : zG} {K : zK} {R : zR} {M : zM} {L : zL} (hW : zWT R K) {a0 : Nat} {x1 : Int32} {x2 : Int32} (k_a0 : K[a0]? = some (12, 61)) {M' : zM} (h : f_X12_emit R M a0 x1 x2 = some M') : Rm G mt_X12_emit [.ref a0, .int x1, .int x2] (M, L, R, K) none (M', L, R, K) := by
  refine rm_rn rfl rfl (Nat.le_of_ble_eq_true rfl) ?_
  show Rn G mt_X12_emit 0 [(0, .ref a0), (1, .int x1), (2, .int x2)] [] (M, L, R, K) none (M', L, R, K)
  unfold f_X12_emit at h
  refine rn_aload_n (q := 0) 0 rfl zd_X12_emit_0.1.1.1.1 ?_
  refine rn_getR zf_X12_86 (Or.inr ⟨_, rfl⟩) k_a0 (zx_12_38 hW k_a0) zd_X12_emit_0.1.1.1.2 ?_
  refine rn_aload_n (q := 0) 0 rfl zd_X12_emit_0.1.1.2.1 ?_
  refine rn_getI zf_X12_224 (Or.inl rfl) k_a0 zd_X12_emit_0.1.1.2.2 ?_
  refine rn_iload_n (q := 1) 1 rfl zd_X12_emit_0.1.2.1.1 ?_
  obtain ⟨hc1, h⟩ := zck_e h
  obtain ⟨M2, hM2, h⟩ := zlt_e h
  refine rn_iast hM2 (zw_12_38 hW k_a0) hc1 zd_X12_emit_0.1.2.1.2 ?_
  refine rn_aload_n (q := 0) 0 rfl zd_X12_emit_0.1.2.2.1 ?_
  refine rn_getR zf_X12_89 (Or.inr ⟨_, rfl⟩) k_a0 (zx_12_39 hW k_a0) zd_X12_emit_0.1.2.2.2 ?_
  refine rn_aload_n (q := 0) 0 rfl zd_X12_emit_0.2.1.1.1 ?_
  refine rn_getI zf_X12_224 (Or.inl rfl) k_a0 zd_X12_emit_0.2.1.1.2 ?_
  refine rn_iload_n (q := 2) 2 rfl zd_X12_emit_0.2.1.2.1 ?_
  obtain ⟨hc3, h⟩ := zck_e h
  obtain ⟨M4, hM4, h⟩ := zlt_e h
  refine rn_iast hM4 (zw_12_39 hW k_a0) hc3 zd_X12_emit_0.2.1.2.2 ?_
  refine rn_aload_n (q := 0) 0 rfl zd_X12_emit_0.2.2.1.1 ?_
  refine rn_dup zd_X12_emit_0.2.2.1.2 rfl ?_
  refine rn_getI zf_X12_224 (Or.inl rfl) k_a0 zd_X12_emit_0.2.2.2.1 ?_
  refine rn_iconst (v := 1) zd_X12_emit_0.2.2.2.2 rfl ?_
  refine rn_iadd zd_X12_emit_1.1 ?_
  obtain ⟨M5, hM5, h⟩ := zlt_e h
  refine rn_putI hM5 zf_X12_224 k_a0 zd_X12_emit_1.2.1 ?_
  cases h
  exact rn_vret zd_X12_emit_1.2.2 rfl
abbrev P_X12_comesOut_0 (G : zG) (K : zK) (R : zR) (L : zL) (a0 : Nat) (x1 : Int32) (r : Option Value) (S' : zS) (v : zM) : Prop := Rn G mt_X12_comesOut 0 [(0, .ref a0), (1, .int x1)] [] (v, L, R, K) r S'
abbrev Q_X12_comesOut_0 (G : zG) (K : zK) (R : zR) (L : zL) (a0 : Nat) (x1 : Int32) (r : Option Value) (S' : zS) : (zM) ⊕ (zM) → Prop := (Sum.elim (fun e => Rn G mt_X12_comesOut 41 [] [] (e, L, R, K) r S') (fun e => Rn G mt_X12_comesOut 91 [] [] (e, L, R, K) r S'))
def j_X12_comesOut_84 (R : zR) (M : zM) (a0 : Nat) (x1 : Int32) (b0 : Nat) (s1 : Int32) : Option ((zM) ⊕ ((zM) ⊕ (zM))) :=
  zbd (f_X12_emit R M b0 s1 (0 : Int32)) fun M9 =>
  some (.inl M9)
set_option maxRecDepth 4000 in
theorem ok_j_X12_comesOut_84 {G : zG} {K : zK} {R : zR} {M : zM} {L : zL} (hW : zWT R K) {a0 : Nat} {x1 : Int32} {b0 : Nat} {s1 : Int32} (k_a0 : K[a0]? = some (12, 61)) (k_b0 : K[b0]? = some (12, 61)) {r : Option Value} {S' : zS} {x : (zM) ⊕ ((zM) ⊕ (zM))} (h : j_X12_comesOut_84 R M a0 x1 b0 s1 = some x) (hk : Sum.elim (P_X12_comesOut_0 G K R L a0 x1 r S') (Q_X12_comesOut_0 G K R L a0 x1 r S') x) : Rn G mt_X12_comesOut 84 [(0, .ref a0), (1, .int x1)] [.int s1, .ref b0] (M, L, R, K) r S' := by
  unfold j_X12_comesOut_84 at h
  refine rn_iconst (v := 0) zd_X12_comesOut_2.2.2.2.1 rfl ?_
  obtain ⟨M9, h10, h⟩ := zbd_e h
  refine rn_callVv (As := [.int s1, .int (0 : Int32)]) (rest := []) zl_X12_262 zm_X12_emit ⟨by decide, by decide⟩ (ci := 12) rfl rfl (by decide) k_b0 rfl rfl (Nat.le_of_ble_eq_true rfl) zd_X12_comesOut_2.2.2.2.2 (ok_X12_emit hW k_b0 h10) ?_
  refine rn_goto (tgt := 0) zd_X12_comesOut_3.1 rfl ?_
  cases h
  exact rn_sub (ls' := [(0, .ref a0), (1, .int x1)]) [0, 1] rfl hk
def j_X12_comesOut_42 (R : zR) (M : zM) (a0 : Nat) (x1 : Int32) (x2 : Int32) : Option ((zM) ⊕ ((zM) ⊕ (zM))) :=
  zlt (zup M a0 41 ((M a0 41) - (1 : Int32))) fun M5 =>
  if x2 = (8 : Int32) then (
    j_X12_comesOut_84 R M5 a0 x1 a0 (2 : Int32)
  ) else (
    if x2 = (9 : Int32) then (
      j_X12_comesOut_84 R M5 a0 x1 a0 (3 : Int32)
    ) else (
      if x2 = (10 : Int32) then (
        j_X12_comesOut_84 R M5 a0 x1 a0 (4 : Int32)
      ) else (
        j_X12_comesOut_84 R M5 a0 x1 a0 (5 : Int32)
      )
    )
  )
set_option maxRecDepth 4000 in
theorem ok_j_X12_comesOut_42 {G : zG} {K : zK} {R : zR} {M : zM} {L : zL} (hW : zWT R K) {a0 : Nat} {x1 : Int32} {x2 : Int32} (k_a0 : K[a0]? = some (12, 61)) {r : Option Value} {S' : zS} {x : (zM) ⊕ ((zM) ⊕ (zM))} (h : j_X12_comesOut_42 R M a0 x1 x2 = some x) (hk : Sum.elim (P_X12_comesOut_0 G K R L a0 x1 r S') (Q_X12_comesOut_0 G K R L a0 x1 r S') x) : Rn G mt_X12_comesOut 42 [(0, .ref a0), (1, .int x1), (2, .int x2)] [] (M, L, R, K) r S' := by
  unfold j_X12_comesOut_42 at h
  refine rn_aload_n (q := 0) 0 rfl zd_X12_comesOut_1.1.2.2.2 ?_
  refine rn_dup zd_X12_comesOut_1.2.1.1.1 rfl ?_
  refine rn_getI zf_X12_259 (Or.inl rfl) k_a0 zd_X12_comesOut_1.2.1.1.2 ?_
  refine rn_iconst (v := 1) zd_X12_comesOut_1.2.1.2.1 rfl ?_
  refine rn_isub zd_X12_comesOut_1.2.1.2.2 ?_
  obtain ⟨M5, hM5, h⟩ := zlt_e h
  refine rn_putI hM5 zf_X12_259 k_a0 zd_X12_comesOut_1.2.2.1.1 ?_
  refine rn_aload_n (q := 0) 0 rfl zd_X12_comesOut_1.2.2.1.2 ?_
  refine rn_iload_n (q := 2) 2 rfl zd_X12_comesOut_1.2.2.2.1 ?_
  refine rn_bipush (v := 8) zd_X12_comesOut_1.2.2.2.2 rfl ?_
  rcases zif_e h with ⟨hc6, h⟩ | ⟨hc6, h⟩
  · refine rn_icmp_ne_f (tgt := 63) hc6 zd_X12_comesOut_2.1.1.1.1 rfl ?_
    refine rn_iconst (v := 2) zd_X12_comesOut_2.1.1.1.2 rfl ?_
    refine rn_goto (tgt := 84) zd_X12_comesOut_2.1.1.2.1 rfl ?_
    exact rn_sub (ls' := [(0, .ref a0), (1, .int x1)]) [0, 1] rfl (ok_j_X12_comesOut_84 hW k_a0 k_a0 h hk)
  · refine rn_icmp_ne_t (tgt := 63) hc6 zd_X12_comesOut_2.1.1.1.1 rfl ?_
    refine rn_iload_n (q := 2) 2 rfl zd_X12_comesOut_2.1.1.2.2 ?_
    refine rn_bipush (v := 9) zd_X12_comesOut_2.1.2.1.1 rfl ?_
    rcases zif_e h with ⟨hc7, h⟩ | ⟨hc7, h⟩
    · refine rn_icmp_ne_f (tgt := 73) hc7 zd_X12_comesOut_2.1.2.1.2 rfl ?_
      refine rn_iconst (v := 3) zd_X12_comesOut_2.1.2.2.1 rfl ?_
      refine rn_goto (tgt := 84) zd_X12_comesOut_2.1.2.2.2 rfl ?_
      exact rn_sub (ls' := [(0, .ref a0), (1, .int x1)]) [0, 1] rfl (ok_j_X12_comesOut_84 hW k_a0 k_a0 h hk)
    · refine rn_icmp_ne_t (tgt := 73) hc7 zd_X12_comesOut_2.1.2.1.2 rfl ?_
      refine rn_iload_n (q := 2) 2 rfl zd_X12_comesOut_2.2.1.1.1 ?_
      refine rn_bipush (v := 10) zd_X12_comesOut_2.2.1.1.2 rfl ?_
      rcases zif_e h with ⟨hc8, h⟩ | ⟨hc8, h⟩
      · refine rn_icmp_ne_f (tgt := 83) hc8 zd_X12_comesOut_2.2.1.2.1 rfl ?_
        refine rn_iconst (v := 4) zd_X12_comesOut_2.2.1.2.2 rfl ?_
        refine rn_goto (tgt := 84) zd_X12_comesOut_2.2.2.1.1 rfl ?_
        exact rn_sub (ls' := [(0, .ref a0), (1, .int x1)]) [0, 1] rfl (ok_j_X12_comesOut_84 hW k_a0 k_a0 h hk)
      · refine rn_icmp_ne_t (tgt := 83) hc8 zd_X12_comesOut_2.2.1.2.1 rfl ?_
        refine rn_iconst (v := 5) zd_X12_comesOut_2.2.2.1.2 rfl ?_
        exact rn_sub (ls' := [(0, .ref a0), (1, .int x1)]) [0, 1] rfl (ok_j_X12_comesOut_84 hW k_a0 k_a0 h hk)
def b_X12_comesOut_0 (R : zR) (M : zM) (a0 : Nat) (x1 : Int32) : Option ((zM) ⊕ ((zM) ⊕ (zM))) :=
  if (M a0 41) ≤ 0 then (
    some (.inr (.inr M))
  ) else (
    zck (zin ((M a0 41) - (1 : Int32)) 64) <|
    if (M (R a0 40) (ztn ((M a0 41) - (1 : Int32)))) = (6 : Int32) then (
      some (.inr (.inl M))
    ) else (
      if x1 = 0 then (
        j_X12_comesOut_42 R M a0 x1 (M (R a0 40) (ztn ((M a0 41) - (1 : Int32))))
      ) else (
        if (M (R a0 40) (ztn ((M a0 41) - (1 : Int32)))) = (8 : Int32) then (
          some (.inr (.inl M))
        ) else (
          if (M (R a0 40) (ztn ((M a0 41) - (1 : Int32)))) = (9 : Int32) then (
            some (.inr (.inl M))
          ) else (
            j_X12_comesOut_42 R M a0 x1 (M (R a0 40) (ztn ((M a0 41) - (1 : Int32))))
          )
        )
      )
    )
  )
set_option maxRecDepth 4000 in
theorem ok_b_X12_comesOut_0 {G : zG} {K : zK} {R : zR} {M : zM} {L : zL} (hW : zWT R K) {a0 : Nat} {x1 : Int32} (k_a0 : K[a0]? = some (12, 61)) {r : Option Value} {S' : zS} {x : (zM) ⊕ ((zM) ⊕ (zM))} (h : b_X12_comesOut_0 R M a0 x1 = some x) (hk : Sum.elim (P_X12_comesOut_0 G K R L a0 x1 r S') (Q_X12_comesOut_0 G K R L a0 x1 r S') x) : P_X12_comesOut_0 G K R L a0 x1 r S' M := by
  show Rn G mt_X12_comesOut 0 [(0, .ref a0), (1, .int x1)] [] (M, L, R, K) r S'
  unfold b_X12_comesOut_0 at h
  refine rn_aload_n (q := 0) 0 rfl zd_X12_comesOut_0.1.1.1.1 ?_
  refine rn_getI zf_X12_259 (Or.inl rfl) k_a0 zd_X12_comesOut_0.1.1.1.2 ?_
  rcases zif_e h with ⟨hc1, h⟩ | ⟨hc1, h⟩
  · refine rn_if_le_t (tgt := 91) hc1 zd_X12_comesOut_0.1.1.2.1 rfl ?_
    cases h
    exact rn_sub (ls' := []) [] rfl hk
  · refine rn_if_le_f (tgt := 91) hc1 zd_X12_comesOut_0.1.1.2.1 rfl ?_
    refine rn_aload_n (q := 0) 0 rfl zd_X12_comesOut_0.1.1.2.2 ?_
    refine rn_getR zf_X12_92 (Or.inr ⟨_, rfl⟩) k_a0 (zx_12_40 hW k_a0) zd_X12_comesOut_0.1.2.1.1 ?_
    refine rn_aload_n (q := 0) 0 rfl zd_X12_comesOut_0.1.2.1.2 ?_
    refine rn_getI zf_X12_259 (Or.inl rfl) k_a0 zd_X12_comesOut_0.1.2.2.1 ?_
    refine rn_iconst (v := 1) zd_X12_comesOut_0.1.2.2.2 rfl ?_
    refine rn_isub zd_X12_comesOut_0.2.1.1.1 ?_
    obtain ⟨hc2, h⟩ := zck_e h
    refine rn_iald (zw_12_40 hW k_a0) hc2 zd_X12_comesOut_0.2.1.1.2 ?_
    refine rn_istore_n (q := 2) (ls' := [(2, .int (M (R a0 40) (ztn ((M a0 41) - (1 : Int32))))), (0, .ref a0), (1, .int x1)]) (by decide) rfl zd_X12_comesOut_0.2.1.2.1 ?_
    refine rn_iload_n (q := 2) 0 rfl zd_X12_comesOut_0.2.1.2.2 ?_
    refine rn_bipush (v := 6) zd_X12_comesOut_0.2.2.1.1 rfl ?_
    rcases zif_e h with ⟨hc3, h⟩ | ⟨hc3, h⟩
    · refine rn_icmp_eq_t (tgt := 41) hc3 zd_X12_comesOut_0.2.2.1.2 rfl ?_
      cases h
      exact rn_sub (ls' := []) [] rfl hk
    · refine rn_icmp_eq_f (tgt := 41) hc3 zd_X12_comesOut_0.2.2.1.2 rfl ?_
      refine rn_iload_n (q := 1) 2 rfl zd_X12_comesOut_0.2.2.2.1 ?_
      rcases zif_e h with ⟨hc4, h⟩ | ⟨hc4, h⟩
      · refine rn_if_eq_t (tgt := 42) hc4 zd_X12_comesOut_0.2.2.2.2 rfl ?_
        exact rn_sub (ls' := [(0, .ref a0), (1, .int x1), (2, .int (M (R a0 40) (ztn ((M a0 41) - (1 : Int32)))))]) [1, 2, 0] rfl (ok_j_X12_comesOut_42 hW k_a0 h hk)
      · refine rn_if_eq_f (tgt := 42) hc4 zd_X12_comesOut_0.2.2.2.2 rfl ?_
        refine rn_iload_n (q := 2) 0 rfl zd_X12_comesOut_1.1.1.1.1 ?_
        refine rn_bipush (v := 8) zd_X12_comesOut_1.1.1.1.2 rfl ?_
        rcases zif_e h with ⟨hc11, h⟩ | ⟨hc11, h⟩
        · refine rn_icmp_eq_t (tgt := 41) hc11 zd_X12_comesOut_1.1.1.2.1 rfl ?_
          cases h
          exact rn_sub (ls' := []) [] rfl hk
        · refine rn_icmp_eq_f (tgt := 41) hc11 zd_X12_comesOut_1.1.1.2.1 rfl ?_
          refine rn_iload_n (q := 2) 0 rfl zd_X12_comesOut_1.1.1.2.2 ?_
          refine rn_bipush (v := 9) zd_X12_comesOut_1.1.2.1.1 rfl ?_
          rcases zif_e h with ⟨hc12, h⟩ | ⟨hc12, h⟩
          · refine rn_icmp_ne_f (tgt := 42) hc12 zd_X12_comesOut_1.1.2.1.2 rfl ?_
            cases h
            exact rn_sub (ls' := []) [] rfl hk
          · refine rn_icmp_ne_t (tgt := 42) hc12 zd_X12_comesOut_1.1.2.1.2 rfl ?_
            exact rn_sub (ls' := [(0, .ref a0), (1, .int x1), (2, .int (M (R a0 40) (ztn ((M a0 41) - (1 : Int32)))))]) [1, 2, 0] rfl (ok_j_X12_comesOut_42 hW k_a0 h hk)
def f_X12_comesOut (R : zR) (M : zM) (a0 : Nat) (x1 : Int32) : Option (zM) :=
  zbd (zloop zN (fun v => b_X12_comesOut_0 R v a0 x1) M) fun e13 =>
  Sum.elim (fun e14 =>
    some e14
  ) (fun e15 =>
    some e15
  ) e13
set_option maxRecDepth 4000 in
theorem ok_X12_comesOut {G : zG} {K : zK} {R : zR} {M : zM} {L : zL} (hW : zWT R K) {a0 : Nat} {x1 : Int32} (k_a0 : K[a0]? = some (12, 61)) {M' : zM} (h : f_X12_comesOut R M a0 x1 = some M') : Rm G mt_X12_comesOut [.ref a0, .int x1] (M, L, R, K) none (M', L, R, K) := by
  refine rm_rn rfl rfl (Nat.le_of_ble_eq_true rfl) ?_
  show Rn G mt_X12_comesOut 0 [(0, .ref a0), (1, .int x1)] [] (M, L, R, K) none (M', L, R, K)
  unfold f_X12_comesOut at h
  obtain ⟨e13, he13, h⟩ := zbd_e h
  refine rn_sub (ls' := [(0, .ref a0), (1, .int x1)]) [0, 1] rfl (zloop_ok (P := P_X12_comesOut_0 G K R L a0 x1 none (M', L, R, K)) (Q := Q_X12_comesOut_0 G K R L a0 x1 none (M', L, R, K)) (fun v x hx hq => ok_b_X12_comesOut_0 hW k_a0 hx hq) _ _ _ he13 ?_)
  rcases e13 with e14 | e15
  · rw [Sum.elim_inl] at h
    show Rn G mt_X12_comesOut 41 [] [] (e14, L, R, K) none (M', L, R, K)
    cases h
    exact rn_vret zd_X12_comesOut_1.1.2.2.1 rfl
  · rw [Sum.elim_inr] at h
    show Rn G mt_X12_comesOut 91 [] [] (e15, L, R, K) none (M', L, R, K)
    cases h
    exact rn_vret zd_X12_comesOut_3.2 rfl
def j_X12_unit_88 (R : zR) (M : zM) (a0 : Nat) : Option (zM) :=
  zbd (f_X12_fail R M a0 (1 : Int32)) fun M5 =>
  some M5
set_option maxRecDepth 4000 in
theorem ok_j_X12_unit_88 {G : zG} {K : zK} {R : zR} {M : zM} {L : zL} (hW : zWT R K) {a0 : Nat} (k_a0 : K[a0]? = some (12, 61)) {M' : zM} (h : j_X12_unit_88 R M a0 = some M') : Rn G mt_X12_unit 88 [(0, .ref a0)] [] (M, L, R, K) none (M', L, R, K) := by
  unfold j_X12_unit_88 at h
  refine rn_aload_n (q := 0) 0 rfl zd_X12_unit_2.2.2.1.2 ?_
  refine rn_iconst (v := 1) zd_X12_unit_2.2.2.2.1 rfl ?_
  obtain ⟨M5, h6, h⟩ := zbd_e h
  refine rn_callVv (As := [.int (1 : Int32)]) (rest := []) zl_X12_197 zm_X12_fail ⟨by decide, by decide⟩ (ci := 12) rfl rfl (by decide) k_a0 rfl rfl (Nat.le_of_ble_eq_true rfl) zd_X12_unit_2.2.2.2.2 (ok_X12_fail hW k_a0 h6) ?_
  cases h
  exact rn_vret zd_X12_unit_3 rfl
def f_X12_unit (R : zR) (M : zM) (a0 : Nat) : Option (zM) :=
  zbd (f_X12_is R M a0 (2 : Int32)) fun r1 =>
  if r1 = 0 then (
    if (M a0 13) = 0 then (
      zck (zin (M a0 11) 403) <|
      if (M (R a0 5) (ztn (M a0 11))) < (33 : Int32) then (
        j_X12_unit_88 R M a0
      ) else (
        zck (zin (M a0 11) 403) <|
        if (39 : Int32) < (M (R a0 5) (ztn (M a0 11))) then (
          j_X12_unit_88 R M a0
        ) else (
          zck (zin (M a0 11) 403) <|
          zbd (f_X12_emit R M a0 (1 : Int32) ((M (R a0 5) (ztn (M a0 11))) - (33 : Int32))) fun M12 =>
          zbd (f_X12_goesOn R M12 a0) fun M14 =>
          some M14
        )
      )
    ) else (
      j_X12_unit_88 R M a0
    )
  ) else (
    zck (zin (M a0 11) 403) <|
    zbd (f_X12_emit R M a0 (0 : Int32) (M (R a0 7) (ztn (M a0 11)))) fun M17 =>
    zbd (f_X12_goesOn R M17 a0) fun M19 =>
    some M19
  )
set_option maxRecDepth 4000 in
theorem ok_X12_unit {G : zG} {K : zK} {R : zR} {M : zM} {L : zL} (hW : zWT R K) {a0 : Nat} (k_a0 : K[a0]? = some (12, 61)) {M' : zM} (h : f_X12_unit R M a0 = some M') : Rm G mt_X12_unit [.ref a0] (M, L, R, K) none (M', L, R, K) := by
  refine rm_rn rfl rfl (Nat.le_of_ble_eq_true rfl) ?_
  show Rn G mt_X12_unit 0 [(0, .ref a0)] [] (M, L, R, K) none (M', L, R, K)
  unfold f_X12_unit at h
  refine rn_aload_n (q := 0) 0 rfl zd_X12_unit_0.1.1.1.1 ?_
  refine rn_iconst (v := 2) zd_X12_unit_0.1.1.1.2 rfl ?_
  obtain ⟨r1, h2, h⟩ := zbd_e h
  refine rn_callVi (As := [.int (2 : Int32)]) (rest := []) zl_X12_200 zm_X12_is ⟨by decide, by decide⟩ (ci := 12) rfl rfl (by decide) k_a0 rfl rfl (Nat.le_of_ble_eq_true rfl) zd_X12_unit_0.1.1.2.1 (ok_X12_is hW k_a0 h2) ?_
  rcases zif_e h with ⟨hc3, h⟩ | ⟨hc3, h⟩
  · refine rn_if_eq_t (tgt := 29) hc3 zd_X12_unit_0.1.1.2.2 rfl ?_
    refine rn_aload_n (q := 0) 0 rfl zd_X12_unit_0.2.2.2.2 ?_
    refine rn_getI zf_X12_182 (Or.inl rfl) k_a0 zd_X12_unit_1.1.1.1.1 ?_
    rcases zif_e h with ⟨hc4, h⟩ | ⟨hc4, h⟩
    · refine rn_if_ne_f (tgt := 88) hc4 zd_X12_unit_1.1.1.1.2 rfl ?_
      refine rn_aload_n (q := 0) 0 rfl zd_X12_unit_1.1.1.2.1 ?_
      refine rn_getR zf_X12_20 (Or.inr ⟨_, rfl⟩) k_a0 (zx_12_5 hW k_a0) zd_X12_unit_1.1.1.2.2 ?_
      refine rn_aload_n (q := 0) 0 rfl zd_X12_unit_1.1.2.1.1 ?_
      refine rn_getI zf_X12_185 (Or.inl rfl) k_a0 zd_X12_unit_1.1.2.1.2 ?_
      obtain ⟨hc7, h⟩ := zck_e h
      refine rn_iald (zw_12_5 hW k_a0) hc7 zd_X12_unit_1.1.2.2.1 ?_
      refine rn_bipush (v := 33) zd_X12_unit_1.1.2.2.2 rfl ?_
      rcases zif_e h with ⟨hc8, h⟩ | ⟨hc8, h⟩
      · refine rn_icmp_lt_t (tgt := 88) hc8 zd_X12_unit_1.2.1.1.1 rfl ?_
        exact rn_sub (ls' := [(0, .ref a0)]) [0] rfl (ok_j_X12_unit_88 hW k_a0 h)
      · refine rn_icmp_lt_f (tgt := 88) hc8 zd_X12_unit_1.2.1.1.1 rfl ?_
        refine rn_aload_n (q := 0) 0 rfl zd_X12_unit_1.2.1.1.2 ?_
        refine rn_getR zf_X12_20 (Or.inr ⟨_, rfl⟩) k_a0 (zx_12_5 hW k_a0) zd_X12_unit_1.2.1.2.1 ?_
        refine rn_aload_n (q := 0) 0 rfl zd_X12_unit_1.2.1.2.2 ?_
        refine rn_getI zf_X12_185 (Or.inl rfl) k_a0 zd_X12_unit_1.2.2.1.1 ?_
        obtain ⟨hc9, h⟩ := zck_e h
        refine rn_iald (zw_12_5 hW k_a0) hc9 zd_X12_unit_1.2.2.1.2 ?_
        refine rn_bipush (v := 39) zd_X12_unit_1.2.2.2.1 rfl ?_
        rcases zif_e h with ⟨hc10, h⟩ | ⟨hc10, h⟩
        · refine rn_icmp_gt_t (tgt := 88) hc10 zd_X12_unit_1.2.2.2.2 rfl ?_
          exact rn_sub (ls' := [(0, .ref a0)]) [0] rfl (ok_j_X12_unit_88 hW k_a0 h)
        · refine rn_icmp_gt_f (tgt := 88) hc10 zd_X12_unit_1.2.2.2.2 rfl ?_
          refine rn_aload_n (q := 0) 0 rfl zd_X12_unit_2.1.1.1.1 ?_
          refine rn_iconst (v := 1) zd_X12_unit_2.1.1.1.2 rfl ?_
          refine rn_aload_n (q := 0) 0 rfl zd_X12_unit_2.1.1.2.1 ?_
          refine rn_getR zf_X12_20 (Or.inr ⟨_, rfl⟩) k_a0 (zx_12_5 hW k_a0) zd_X12_unit_2.1.1.2.2 ?_
          refine rn_aload_n (q := 0) 0 rfl zd_X12_unit_2.1.2.1.1 ?_
          refine rn_getI zf_X12_185 (Or.inl rfl) k_a0 zd_X12_unit_2.1.2.1.2 ?_
          obtain ⟨hc11, h⟩ := zck_e h
          refine rn_iald (zw_12_5 hW k_a0) hc11 zd_X12_unit_2.1.2.2.1 ?_
          refine rn_bipush (v := 33) zd_X12_unit_2.1.2.2.2 rfl ?_
          refine rn_isub zd_X12_unit_2.2.1.1.1 ?_
          obtain ⟨M12, h13, h⟩ := zbd_e h
          refine rn_callVv (As := [.int (1 : Int32), .int ((M (R a0 5) (ztn (M a0 11))) - (33 : Int32))]) (rest := []) zl_X12_262 zm_X12_emit ⟨by decide, by decide⟩ (ci := 12) rfl rfl (by decide) k_a0 rfl rfl (Nat.le_of_ble_eq_true rfl) zd_X12_unit_2.2.1.1.2 (ok_X12_emit hW k_a0 h13) ?_
          refine rn_aload_n (q := 0) 0 rfl zd_X12_unit_2.2.1.2.1 ?_
          obtain ⟨M14, h15, h⟩ := zbd_e h
          refine rn_callVv (As := []) (rest := []) zl_X12_203 zm_X12_goesOn ⟨by decide, by decide⟩ (ci := 12) rfl rfl (by decide) k_a0 rfl rfl (Nat.le_of_ble_eq_true rfl) zd_X12_unit_2.2.1.2.2 (ok_X12_goesOn hW k_a0 h15) ?_
          refine rn_goto (tgt := 93) zd_X12_unit_2.2.2.1.1 rfl ?_
          cases h
          exact rn_vret zd_X12_unit_3 rfl
    · refine rn_if_ne_t (tgt := 88) hc4 zd_X12_unit_1.1.1.1.2 rfl ?_
      exact rn_sub (ls' := [(0, .ref a0)]) [0] rfl (ok_j_X12_unit_88 hW k_a0 h)
  · refine rn_if_eq_f (tgt := 29) hc3 zd_X12_unit_0.1.1.2.2 rfl ?_
    refine rn_aload_n (q := 0) 0 rfl zd_X12_unit_0.1.2.1.1 ?_
    refine rn_iconst (v := 0) zd_X12_unit_0.1.2.1.2 rfl ?_
    refine rn_aload_n (q := 0) 0 rfl zd_X12_unit_0.1.2.2.1 ?_
    refine rn_getR zf_X12_27 (Or.inr ⟨_, rfl⟩) k_a0 (zx_12_7 hW k_a0) zd_X12_unit_0.1.2.2.2 ?_
    refine rn_aload_n (q := 0) 0 rfl zd_X12_unit_0.2.1.1.1 ?_
    refine rn_getI zf_X12_185 (Or.inl rfl) k_a0 zd_X12_unit_0.2.1.1.2 ?_
    obtain ⟨hc16, h⟩ := zck_e h
    refine rn_iald (zw_12_7 hW k_a0) hc16 zd_X12_unit_0.2.1.2.1 ?_
    obtain ⟨M17, h18, h⟩ := zbd_e h
    refine rn_callVv (As := [.int (0 : Int32), .int (M (R a0 7) (ztn (M a0 11)))]) (rest := []) zl_X12_262 zm_X12_emit ⟨by decide, by decide⟩ (ci := 12) rfl rfl (by decide) k_a0 rfl rfl (Nat.le_of_ble_eq_true rfl) zd_X12_unit_0.2.1.2.2 (ok_X12_emit hW k_a0 h18) ?_
    refine rn_aload_n (q := 0) 0 rfl zd_X12_unit_0.2.2.1.1 ?_
    obtain ⟨M19, h20, h⟩ := zbd_e h
    refine rn_callVv (As := []) (rest := []) zl_X12_203 zm_X12_goesOn ⟨by decide, by decide⟩ (ci := 12) rfl rfl (by decide) k_a0 rfl rfl (Nat.le_of_ble_eq_true rfl) zd_X12_unit_0.2.2.1.2 (ok_X12_goesOn hW k_a0 h20) ?_
    refine rn_goto (tgt := 93) zd_X12_unit_0.2.2.2.1 rfl ?_
    cases h
    exact rn_vret zd_X12_unit_3 rfl
abbrev P_X12_expression_12 (G : zG) (K : zK) (R : zR) (L : zL) (a0 : Nat) (x1 : Int32) (r : Option Value) (S' : zS) (v : Int32 × zM) : Prop := Rn G mt_X12_expression 12 [(0, .ref a0), (1, .int x1), (2, .int v.1)] [] (v.2, L, R, K) r S'
abbrev Q_X12_expression_12 (G : zG) (K : zK) (R : zR) (L : zL) (a0 : Nat) (x1 : Int32) (r : Option Value) (S' : zS) : (zM) ⊕ (zM) ⊕ (zM) → Prop := (Sum.elim (fun e => Rn G mt_X12_expression 95 [] [] (e, L, R, K) r S') (Sum.elim (fun e => Rn G mt_X12_expression 191 [(0, .ref a0), (1, .int x1)] [] (e, L, R, K) r S') (fun e => Rn G mt_X12_expression 272 [] [] (e, L, R, K) r S')))
abbrev P_X12_expression_23 (G : zG) (K : zK) (R : zR) (L : zL) (a0 : Nat) (x1 : Int32) (r : Option Value) (S' : zS) (v : zM) : Prop := Rn G mt_X12_expression 23 [(0, .ref a0), (1, .int x1)] [] (v, L, R, K) r S'
abbrev Q_X12_expression_23 (G : zG) (K : zK) (R : zR) (L : zL) (a0 : Nat) (x1 : Int32) (r : Option Value) (S' : zS) : (zM) → Prop := (fun e => Rn G mt_X12_expression 84 [(0, .ref a0), (1, .int x1)] [] (e, L, R, K) r S')
def j_X12_expression_46 (R : zR) (M : zM) (a0 : Nat) (x1 : Int32) : Option ((zM) ⊕ ((zM))) :=
  zlt (zup M a0 12 ((M a0 12) + (1 : Int32))) fun M8 =>
  zbd (f_X12_goesOn R M8 a0) fun M9 =>
  zck (zin (M9 a0 41) 64) <|
  zlt (zup M9 (R a0 40) (ztn (M9 a0 41)) (6 : Int32)) fun M12 =>
  zlt (zup M12 a0 41 ((M12 a0 41) + (1 : Int32))) fun M13 =>
  some (.inl M13)
set_option maxRecDepth 4000 in
theorem ok_j_X12_expression_46 {G : zG} {K : zK} {R : zR} {M : zM} {L : zL} (hW : zWT R K) {a0 : Nat} {x1 : Int32} (k_a0 : K[a0]? = some (12, 61)) {r : Option Value} {S' : zS} {x : (zM) ⊕ ((zM))} (h : j_X12_expression_46 R M a0 x1 = some x) (hk : Sum.elim (P_X12_expression_23 G K R L a0 x1 r S') (Q_X12_expression_23 G K R L a0 x1 r S') x) : Rn G mt_X12_expression 46 [(0, .ref a0), (1, .int x1)] [] (M, L, R, K) r S' := by
  unfold j_X12_expression_46 at h
  refine rn_aload_n (q := 0) 0 rfl zd_X12_expression_1.2.1.1.1 ?_
  refine rn_dup zd_X12_expression_1.2.1.1.2 rfl ?_
  refine rn_getI zf_X12_209 (Or.inl rfl) k_a0 zd_X12_expression_1.2.1.2.1 ?_
  refine rn_iconst (v := 1) zd_X12_expression_1.2.1.2.2 rfl ?_
  refine rn_iadd zd_X12_expression_1.2.2.1.1 ?_
  obtain ⟨M8, hM8, h⟩ := zlt_e h
  refine rn_putI hM8 zf_X12_209 k_a0 zd_X12_expression_1.2.2.1.2 ?_
  refine rn_aload_n (q := 0) 0 rfl zd_X12_expression_1.2.2.2.1 ?_
  obtain ⟨M9, h10, h⟩ := zbd_e h
  refine rn_callVv (As := []) (rest := []) zl_X12_203 zm_X12_goesOn ⟨by decide, by decide⟩ (ci := 12) rfl rfl (by decide) k_a0 rfl rfl (Nat.le_of_ble_eq_true rfl) zd_X12_expression_1.2.2.2.2 (ok_X12_goesOn hW k_a0 h10) ?_
  refine rn_aload_n (q := 0) 0 rfl zd_X12_expression_2.1.1.1.1 ?_
  refine rn_getR zf_X12_92 (Or.inr ⟨_, rfl⟩) k_a0 (zx_12_40 hW k_a0) zd_X12_expression_2.1.1.1.2 ?_
  refine rn_aload_n (q := 0) 0 rfl zd_X12_expression_2.1.1.2.1 ?_
  refine rn_getI zf_X12_259 (Or.inl rfl) k_a0 zd_X12_expression_2.1.1.2.2 ?_
  refine rn_bipush (v := 6) zd_X12_expression_2.1.2.1.1 rfl ?_
  obtain ⟨hc11, h⟩ := zck_e h
  obtain ⟨M12, hM12, h⟩ := zlt_e h
  refine rn_iast hM12 (zw_12_40 hW k_a0) hc11 zd_X12_expression_2.1.2.1.2 ?_
  refine rn_aload_n (q := 0) 0 rfl zd_X12_expression_2.1.2.2.1 ?_
  refine rn_dup zd_X12_expression_2.1.2.2.2 rfl ?_
  refine rn_getI zf_X12_259 (Or.inl rfl) k_a0 zd_X12_expression_2.2.1.1.1 ?_
  refine rn_iconst (v := 1) zd_X12_expression_2.2.1.1.2 rfl ?_
  refine rn_iadd zd_X12_expression_2.2.1.2.1 ?_
  obtain ⟨M13, hM13, h⟩ := zlt_e h
  refine rn_putI hM13 zf_X12_259 k_a0 zd_X12_expression_2.2.1.2.2 ?_
  refine rn_goto (tgt := 23) zd_X12_expression_2.2.2.1.1 rfl ?_
  cases h
  exact rn_sub (ls' := [(0, .ref a0), (1, .int x1)]) [0, 1] rfl hk
def b_X12_expression_23 (R : zR) (M : zM) (a0 : Nat) (x1 : Int32) : Option ((zM) ⊕ ((zM))) :=
  zbd (f_X12_is R M a0 (6 : Int32)) fun r4 =>
  if r4 = 0 then (
    some (.inr M)
  ) else (
    if (M a0 12) = (6 : Int32) then (
      zbd (f_X12_fail R M a0 (2 : Int32)) fun M14 =>
      j_X12_expression_46 R M14 a0 x1
    ) else (
      j_X12_expression_46 R M a0 x1
    )
  )
set_option maxRecDepth 4000 in
theorem ok_b_X12_expression_23 {G : zG} {K : zK} {R : zR} {M : zM} {L : zL} (hW : zWT R K) {a0 : Nat} {x1 : Int32} (k_a0 : K[a0]? = some (12, 61)) {r : Option Value} {S' : zS} {x : (zM) ⊕ ((zM))} (h : b_X12_expression_23 R M a0 x1 = some x) (hk : Sum.elim (P_X12_expression_23 G K R L a0 x1 r S') (Q_X12_expression_23 G K R L a0 x1 r S') x) : P_X12_expression_23 G K R L a0 x1 r S' M := by
  show Rn G mt_X12_expression 23 [(0, .ref a0), (1, .int x1)] [] (M, L, R, K) r S'
  unfold b_X12_expression_23 at h
  refine rn_aload_n (q := 0) 0 rfl zd_X12_expression_0.2.2.1.2 ?_
  refine rn_bipush (v := 6) zd_X12_expression_0.2.2.2.1 rfl ?_
  obtain ⟨r4, h5, h⟩ := zbd_e h
  refine rn_callVi (As := [.int (6 : Int32)]) (rest := []) zl_X12_200 zm_X12_is ⟨by decide, by decide⟩ (ci := 12) rfl rfl (by decide) k_a0 rfl rfl (Nat.le_of_ble_eq_true rfl) zd_X12_expression_0.2.2.2.2 (ok_X12_is hW k_a0 h5) ?_
  rcases zif_e h with ⟨hc6, h⟩ | ⟨hc6, h⟩
  · refine rn_if_eq_t (tgt := 84) hc6 zd_X12_expression_1.1.1.1.1 rfl ?_
    cases h
    exact rn_sub (ls' := [(0, .ref a0), (1, .int x1)]) [0, 1] rfl hk
  · refine rn_if_eq_f (tgt := 84) hc6 zd_X12_expression_1.1.1.1.1 rfl ?_
    refine rn_aload_n (q := 0) 0 rfl zd_X12_expression_1.1.1.1.2 ?_
    refine rn_getI zf_X12_209 (Or.inl rfl) k_a0 zd_X12_expression_1.1.1.2.1 ?_
    refine rn_bipush (v := 6) zd_X12_expression_1.1.1.2.2 rfl ?_
    rcases zif_e h with ⟨hc7, h⟩ | ⟨hc7, h⟩
    · refine rn_icmp_ne_f (tgt := 46) hc7 zd_X12_expression_1.1.2.1.1 rfl ?_
      refine rn_aload_n (q := 0) 0 rfl zd_X12_expression_1.1.2.1.2 ?_
      refine rn_iconst (v := 2) zd_X12_expression_1.1.2.2.1 rfl ?_
      obtain ⟨M14, h15, h⟩ := zbd_e h
      refine rn_callVv (As := [.int (2 : Int32)]) (rest := []) zl_X12_197 zm_X12_fail ⟨by decide, by decide⟩ (ci := 12) rfl rfl (by decide) k_a0 rfl rfl (Nat.le_of_ble_eq_true rfl) zd_X12_expression_1.1.2.2.2 (ok_X12_fail hW k_a0 h15) ?_
      exact rn_sub (ls' := [(0, .ref a0), (1, .int x1)]) [0, 1] rfl (ok_j_X12_expression_46 hW k_a0 h hk)
    · refine rn_icmp_ne_t (tgt := 46) hc7 zd_X12_expression_1.1.2.1.1 rfl ?_
      exact rn_sub (ls' := [(0, .ref a0), (1, .int x1)]) [0, 1] rfl (ok_j_X12_expression_46 hW k_a0 h hk)
abbrev P_X12_expression_96 (G : zG) (K : zK) (R : zR) (L : zL) (a0 : Nat) (x1 : Int32) (r : Option Value) (S' : zS) (v : zM) : Prop := Rn G mt_X12_expression 96 [(0, .ref a0), (1, .int x1)] [] (v, L, R, K) r S'
abbrev Q_X12_expression_96 (G : zG) (K : zK) (R : zR) (L : zL) (a0 : Nat) (x1 : Int32) (r : Option Value) (S' : zS) : (zM) → Prop := (fun e => Rn G mt_X12_expression 145 [(0, .ref a0), (1, .int x1)] [] (e, L, R, K) r S')
def b_X12_expression_96 (R : zR) (M : zM) (a0 : Nat) (x1 : Int32) : Option ((zM) ⊕ ((zM))) :=
  zbd (f_X12_is R M a0 (7 : Int32)) fun r20 =>
  if r20 = 0 then (
    some (.inr M)
  ) else (
    if (M a0 12) ≤ x1 then (
      some (.inr M)
    ) else (
      zbd (f_X12_comesOut R M a0 (0 : Int32)) fun M24 =>
      zlt (zup M24 a0 41 ((M24 a0 41) - (1 : Int32))) fun M26 =>
      zlt (zup M26 a0 12 ((M26 a0 12) - (1 : Int32))) fun M27 =>
      zbd (f_X12_goesOn R M27 a0) fun M28 =>
      some (.inl M28)
    )
  )
set_option maxRecDepth 4000 in
theorem ok_b_X12_expression_96 {G : zG} {K : zK} {R : zR} {M : zM} {L : zL} (hW : zWT R K) {a0 : Nat} {x1 : Int32} (k_a0 : K[a0]? = some (12, 61)) {r : Option Value} {S' : zS} {x : (zM) ⊕ ((zM))} (h : b_X12_expression_96 R M a0 x1 = some x) (hk : Sum.elim (P_X12_expression_96 G K R L a0 x1 r S') (Q_X12_expression_96 G K R L a0 x1 r S') x) : P_X12_expression_96 G K R L a0 x1 r S' M := by
  show Rn G mt_X12_expression 96 [(0, .ref a0), (1, .int x1)] [] (M, L, R, K) r S'
  unfold b_X12_expression_96 at h
  refine rn_aload_n (q := 0) 0 rfl zd_X12_expression_3.1.1.2.2 ?_
  refine rn_bipush (v := 7) zd_X12_expression_3.1.2.1.1 rfl ?_
  obtain ⟨r20, h21, h⟩ := zbd_e h
  refine rn_callVi (As := [.int (7 : Int32)]) (rest := []) zl_X12_200 zm_X12_is ⟨by decide, by decide⟩ (ci := 12) rfl rfl (by decide) k_a0 rfl rfl (Nat.le_of_ble_eq_true rfl) zd_X12_expression_3.1.2.1.2 (ok_X12_is hW k_a0 h21) ?_
  rcases zif_e h with ⟨hc22, h⟩ | ⟨hc22, h⟩
  · refine rn_if_eq_t (tgt := 145) hc22 zd_X12_expression_3.1.2.2.1 rfl ?_
    cases h
    exact rn_sub (ls' := [(0, .ref a0), (1, .int x1)]) [0, 1] rfl hk
  · refine rn_if_eq_f (tgt := 145) hc22 zd_X12_expression_3.1.2.2.1 rfl ?_
    refine rn_aload_n (q := 0) 0 rfl zd_X12_expression_3.1.2.2.2 ?_
    refine rn_getI zf_X12_209 (Or.inl rfl) k_a0 zd_X12_expression_3.2.1.1.1 ?_
    refine rn_iload_n (q := 1) 1 rfl zd_X12_expression_3.2.1.1.2 ?_
    rcases zif_e h with ⟨hc23, h⟩ | ⟨hc23, h⟩
    · refine rn_icmp_le_t (tgt := 145) hc23 zd_X12_expression_3.2.1.2.1 rfl ?_
      cases h
      exact rn_sub (ls' := [(0, .ref a0), (1, .int x1)]) [0, 1] rfl hk
    · refine rn_icmp_le_f (tgt := 145) hc23 zd_X12_expression_3.2.1.2.1 rfl ?_
      refine rn_aload_n (q := 0) 0 rfl zd_X12_expression_3.2.1.2.2 ?_
      refine rn_iconst (v := 0) zd_X12_expression_3.2.2.1.1 rfl ?_
      obtain ⟨M24, h25, h⟩ := zbd_e h
      refine rn_callVv (As := [.int (0 : Int32)]) (rest := []) zl_X12_268 zm_X12_comesOut ⟨by decide, by decide⟩ (ci := 12) rfl rfl (by decide) k_a0 rfl rfl (Nat.le_of_ble_eq_true rfl) zd_X12_expression_3.2.2.1.2 (ok_X12_comesOut hW k_a0 h25) ?_
      refine rn_aload_n (q := 0) 0 rfl zd_X12_expression_3.2.2.2.1 ?_
      refine rn_dup zd_X12_expression_3.2.2.2.2 rfl ?_
      refine rn_getI zf_X12_259 (Or.inl rfl) k_a0 zd_X12_expression_4.1.1.1.1 ?_
      refine rn_iconst (v := 1) zd_X12_expression_4.1.1.1.2 rfl ?_
      refine rn_isub zd_X12_expression_4.1.1.2.1 ?_
      obtain ⟨M26, hM26, h⟩ := zlt_e h
      refine rn_putI hM26 zf_X12_259 k_a0 zd_X12_expression_4.1.1.2.2 ?_
      refine rn_aload_n (q := 0) 0 rfl zd_X12_expression_4.1.2.1.1 ?_
      refine rn_dup zd_X12_expression_4.1.2.1.2 rfl ?_
      refine rn_getI zf_X12_209 (Or.inl rfl) k_a0 zd_X12_expression_4.1.2.2.1 ?_
      refine rn_iconst (v := 1) zd_X12_expression_4.1.2.2.2 rfl ?_
      refine rn_isub zd_X12_expression_4.2.1.1.1 ?_
      obtain ⟨M27, hM27, h⟩ := zlt_e h
      refine rn_putI hM27 zf_X12_209 k_a0 zd_X12_expression_4.2.1.1.2 ?_
      refine rn_aload_n (q := 0) 0 rfl zd_X12_expression_4.2.1.2.1 ?_
      obtain ⟨M28, h29, h⟩ := zbd_e h
      refine rn_callVv (As := []) (rest := []) zl_X12_203 zm_X12_goesOn ⟨by decide, by decide⟩ (ci := 12) rfl rfl (by decide) k_a0 rfl rfl (Nat.le_of_ble_eq_true rfl) zd_X12_expression_4.2.1.2.2 (ok_X12_goesOn hW k_a0 h29) ?_
      refine rn_goto (tgt := 96) zd_X12_expression_4.2.2.1.1 rfl ?_
      cases h
      exact rn_sub (ls' := [(0, .ref a0), (1, .int x1)]) [0, 1] rfl hk
def j_X12_expression_234 (R : zR) (M : zM) (a0 : Nat) (x1 : Int32) (x2 : Int32) (b0 : Nat) (s1 : Int32) : Option ((Int32 × zM) ⊕ ((zM) ⊕ (zM) ⊕ (zM))) :=
  zbd (f_X12_comesOut R M b0 s1) fun M38 =>
  zck (zin (M38 a0 11) 403) <|
  zck (zin (M38 a0 41) 64) <|
  zlt (zup M38 (R a0 40) (ztn (M38 a0 41)) (M38 (R a0 5) (ztn (M38 a0 11)))) fun M42 =>
  zlt (zup M42 a0 41 ((M42 a0 41) + (1 : Int32))) fun M43 =>
  zbd (f_X12_goesOn R M43 a0) fun M44 =>
  some (.inl (x2, M44))
set_option maxRecDepth 4000 in
theorem ok_j_X12_expression_234 {G : zG} {K : zK} {R : zR} {M : zM} {L : zL} (hW : zWT R K) {a0 : Nat} {x1 : Int32} {x2 : Int32} {b0 : Nat} {s1 : Int32} (k_a0 : K[a0]? = some (12, 61)) (k_b0 : K[b0]? = some (12, 61)) {r : Option Value} {S' : zS} {x : (Int32 × zM) ⊕ ((zM) ⊕ (zM) ⊕ (zM))} (h : j_X12_expression_234 R M a0 x1 x2 b0 s1 = some x) (hk : Sum.elim (P_X12_expression_12 G K R L a0 x1 r S') (Q_X12_expression_12 G K R L a0 x1 r S') x) : Rn G mt_X12_expression 234 [(0, .ref a0), (1, .int x1), (2, .int x2)] [.int s1, .ref b0] (M, L, R, K) r S' := by
  unfold j_X12_expression_234 at h
  obtain ⟨M38, h39, h⟩ := zbd_e h
  refine rn_callVv (As := [.int s1]) (rest := []) zl_X12_268 zm_X12_comesOut ⟨by decide, by decide⟩ (ci := 12) rfl rfl (by decide) k_b0 rfl rfl (Nat.le_of_ble_eq_true rfl) zd_X12_expression_7.2.1.2.1 (ok_X12_comesOut hW k_b0 h39) ?_
  refine rn_aload_n (q := 0) 0 rfl zd_X12_expression_7.2.1.2.2 ?_
  refine rn_getR zf_X12_92 (Or.inr ⟨_, rfl⟩) k_a0 (zx_12_40 hW k_a0) zd_X12_expression_7.2.2.1.1 ?_
  refine rn_aload_n (q := 0) 0 rfl zd_X12_expression_7.2.2.1.2 ?_
  refine rn_getI zf_X12_259 (Or.inl rfl) k_a0 zd_X12_expression_7.2.2.2.1 ?_
  refine rn_aload_n (q := 0) 0 rfl zd_X12_expression_7.2.2.2.2 ?_
  refine rn_getR zf_X12_20 (Or.inr ⟨_, rfl⟩) k_a0 (zx_12_5 hW k_a0) zd_X12_expression_8.1.1.1 ?_
  refine rn_aload_n (q := 0) 0 rfl zd_X12_expression_8.1.1.2.1 ?_
  refine rn_getI zf_X12_185 (Or.inl rfl) k_a0 zd_X12_expression_8.1.1.2.2 ?_
  obtain ⟨hc40, h⟩ := zck_e h
  refine rn_iald (zw_12_5 hW k_a0) hc40 zd_X12_expression_8.1.2.1.1 ?_
  obtain ⟨hc41, h⟩ := zck_e h
  obtain ⟨M42, hM42, h⟩ := zlt_e h
  refine rn_iast hM42 (zw_12_40 hW k_a0) hc41 zd_X12_expression_8.1.2.1.2 ?_
  refine rn_aload_n (q := 0) 0 rfl zd_X12_expression_8.1.2.2.1 ?_
  refine rn_dup zd_X12_expression_8.1.2.2.2 rfl ?_
  refine rn_getI zf_X12_259 (Or.inl rfl) k_a0 zd_X12_expression_8.2.1.1.1 ?_
  refine rn_iconst (v := 1) zd_X12_expression_8.2.1.1.2 rfl ?_
  refine rn_iadd zd_X12_expression_8.2.1.2.1 ?_
  obtain ⟨M43, hM43, h⟩ := zlt_e h
  refine rn_putI hM43 zf_X12_259 k_a0 zd_X12_expression_8.2.1.2.2 ?_
  refine rn_aload_n (q := 0) 0 rfl zd_X12_expression_8.2.2.1.1 ?_
  obtain ⟨M44, h45, h⟩ := zbd_e h
  refine rn_callVv (As := []) (rest := []) zl_X12_203 zm_X12_goesOn ⟨by decide, by decide⟩ (ci := 12) rfl rfl (by decide) k_a0 rfl rfl (Nat.le_of_ble_eq_true rfl) zd_X12_expression_8.2.2.1.2 (ok_X12_goesOn hW k_a0 h45) ?_
  refine rn_goto (tgt := 12) zd_X12_expression_8.2.2.2.1 rfl ?_
  cases h
  exact rn_sub (ls' := [(0, .ref a0), (1, .int x1), (2, .int x2)]) [0, 1, 2] rfl hk
def j_X12_expression_229 (R : zR) (M : zM) (a0 : Nat) (x1 : Int32) (x2 : Int32) (b0 : Nat) : Option ((Int32 × zM) ⊕ ((zM) ⊕ (zM) ⊕ (zM))) :=
  j_X12_expression_234 R M a0 x1 x2 b0 (1 : Int32)
set_option maxRecDepth 4000 in
theorem ok_j_X12_expression_229 {G : zG} {K : zK} {R : zR} {M : zM} {L : zL} (hW : zWT R K) {a0 : Nat} {x1 : Int32} {x2 : Int32} {b0 : Nat} (k_a0 : K[a0]? = some (12, 61)) (k_b0 : K[b0]? = some (12, 61)) {r : Option Value} {S' : zS} {x : (Int32 × zM) ⊕ ((zM) ⊕ (zM) ⊕ (zM))} (h : j_X12_expression_229 R M a0 x1 x2 b0 = some x) (hk : Sum.elim (P_X12_expression_12 G K R L a0 x1 r S') (Q_X12_expression_12 G K R L a0 x1 r S') x) : Rn G mt_X12_expression 229 [(0, .ref a0), (1, .int x1), (2, .int x2)] [.ref b0] (M, L, R, K) r S' := by
  unfold j_X12_expression_229 at h
  refine rn_iconst (v := 1) zd_X12_expression_7.1.2.2.2 rfl ?_
  refine rn_goto (tgt := 234) zd_X12_expression_7.2.1.1.1 rfl ?_
  exact rn_sub (ls' := [(0, .ref a0), (1, .int x1), (2, .int x2)]) [0, 1, 2] rfl (ok_j_X12_expression_234 hW k_a0 k_b0 h hk)
def j_X12_expression_186 (R : zR) (M : zM) (a0 : Nat) (x1 : Int32) (s0 : Int32) : Option ((Int32 × zM) ⊕ ((zM) ⊕ (zM) ⊕ (zM))) :=
  if s0 = 0 then (
    some (.inr (.inr (.inl M)))
  ) else (
    zbd (f_X12_is R M a0 (10 : Int32)) fun r35 =>
    if r35 = 0 then (
      zbd (f_X12_is R M a0 (15 : Int32)) fun r46 =>
      if r46 = 0 then (
        j_X12_expression_234 R M a0 x1 s0 a0 (0 : Int32)
      ) else (
        j_X12_expression_229 R M a0 x1 s0 a0
      )
    ) else (
      j_X12_expression_229 R M a0 x1 s0 a0
    )
  )
set_option maxRecDepth 4000 in
theorem ok_j_X12_expression_186 {G : zG} {K : zK} {R : zR} {M : zM} {L : zL} (hW : zWT R K) {a0 : Nat} {x1 : Int32} {s0 : Int32} (k_a0 : K[a0]? = some (12, 61)) {r : Option Value} {S' : zS} {x : (Int32 × zM) ⊕ ((zM) ⊕ (zM) ⊕ (zM))} (h : j_X12_expression_186 R M a0 x1 s0 = some x) (hk : Sum.elim (P_X12_expression_12 G K R L a0 x1 r S') (Q_X12_expression_12 G K R L a0 x1 r S') x) : Rn G mt_X12_expression 186 [(0, .ref a0), (1, .int x1)] [.int s0] (M, L, R, K) r S' := by
  unfold j_X12_expression_186 at h
  refine rn_istore_n (q := 2) (ls' := [(2, .int s0), (0, .ref a0), (1, .int x1)]) (by decide) rfl zd_X12_expression_6.1.1.1.1 ?_
  refine rn_iload_n (q := 2) 0 rfl zd_X12_expression_6.1.1.1.2 ?_
  rcases zif_e h with ⟨hc34, h⟩ | ⟨hc34, h⟩
  · refine rn_if_ne_f (tgt := 210) hc34 zd_X12_expression_6.1.1.2.1 rfl ?_
    cases h
    exact rn_sub (ls' := [(0, .ref a0), (1, .int x1)]) [1, 2] rfl hk
  · refine rn_if_ne_t (tgt := 210) hc34 zd_X12_expression_6.1.1.2.1 rfl ?_
    refine rn_aload_n (q := 0) 1 rfl zd_X12_expression_6.2.2.2.1 ?_
    refine rn_aload_n (q := 0) 1 rfl zd_X12_expression_6.2.2.2.2 ?_
    refine rn_bipush (v := 10) zd_X12_expression_7.1.1.1.1 rfl ?_
    obtain ⟨r35, h36, h⟩ := zbd_e h
    refine rn_callVi (As := [.int (10 : Int32)]) (rest := [.ref a0]) zl_X12_200 zm_X12_is ⟨by decide, by decide⟩ (ci := 12) rfl rfl (by decide) k_a0 rfl rfl (Nat.le_of_ble_eq_true rfl) zd_X12_expression_7.1.1.1.2 (ok_X12_is hW k_a0 h36) ?_
    rcases zif_e h with ⟨hc37, h⟩ | ⟨hc37, h⟩
    · refine rn_if_ne_f (tgt := 229) hc37 zd_X12_expression_7.1.1.2.1 rfl ?_
      refine rn_aload_n (q := 0) 1 rfl zd_X12_expression_7.1.1.2.2 ?_
      refine rn_bipush (v := 15) zd_X12_expression_7.1.2.1.1 rfl ?_
      obtain ⟨r46, h47, h⟩ := zbd_e h
      refine rn_callVi (As := [.int (15 : Int32)]) (rest := [.ref a0]) zl_X12_200 zm_X12_is ⟨by decide, by decide⟩ (ci := 12) rfl rfl (by decide) k_a0 rfl rfl (Nat.le_of_ble_eq_true rfl) zd_X12_expression_7.1.2.1.2 (ok_X12_is hW k_a0 h47) ?_
      rcases zif_e h with ⟨hc48, h⟩ | ⟨hc48, h⟩
      · refine rn_if_eq_t (tgt := 233) hc48 zd_X12_expression_7.1.2.2.1 rfl ?_
        refine rn_iconst (v := 0) zd_X12_expression_7.2.1.1.2 rfl ?_
        exact rn_sub (ls' := [(0, .ref a0), (1, .int x1), (2, .int s0)]) [1, 2, 0] rfl (ok_j_X12_expression_234 hW k_a0 k_a0 h hk)
      · refine rn_if_eq_f (tgt := 233) hc48 zd_X12_expression_7.1.2.2.1 rfl ?_
        exact rn_sub (ls' := [(0, .ref a0), (1, .int x1), (2, .int s0)]) [1, 2, 0] rfl (ok_j_X12_expression_229 hW k_a0 k_a0 h hk)
    · refine rn_if_ne_t (tgt := 229) hc37 zd_X12_expression_7.1.1.2.1 rfl ?_
      exact rn_sub (ls' := [(0, .ref a0), (1, .int x1), (2, .int s0)]) [1, 2, 0] rfl (ok_j_X12_expression_229 hW k_a0 k_a0 h hk)
def j_X12_expression_181 (R : zR) (M : zM) (a0 : Nat) (x1 : Int32) : Option ((Int32 × zM) ⊕ ((zM) ⊕ (zM) ⊕ (zM))) :=
  j_X12_expression_186 R M a0 x1 (1 : Int32)
set_option maxRecDepth 4000 in
theorem ok_j_X12_expression_181 {G : zG} {K : zK} {R : zR} {M : zM} {L : zL} (hW : zWT R K) {a0 : Nat} {x1 : Int32} (k_a0 : K[a0]? = some (12, 61)) {r : Option Value} {S' : zS} {x : (Int32 × zM) ⊕ ((zM) ⊕ (zM) ⊕ (zM))} (h : j_X12_expression_181 R M a0 x1 = some x) (hk : Sum.elim (P_X12_expression_12 G K R L a0 x1 r S') (Q_X12_expression_12 G K R L a0 x1 r S') x) : Rn G mt_X12_expression 181 [(0, .ref a0), (1, .int x1)] [] (M, L, R, K) r S' := by
  unfold j_X12_expression_181 at h
  refine rn_iconst (v := 1) zd_X12_expression_5.2.2.1.2 rfl ?_
  refine rn_goto (tgt := 186) zd_X12_expression_5.2.2.2.1 rfl ?_
  exact rn_sub (ls' := [(0, .ref a0), (1, .int x1)]) [0, 1] rfl (ok_j_X12_expression_186 hW k_a0 h hk)
def b_X12_expression_12 (R : zR) (M : zM) (a0 : Nat) (x1 : Int32) (x2 : Int32) : Option ((Int32 × zM) ⊕ ((zM) ⊕ (zM) ⊕ (zM))) :=
  if x2 = 0 then (
    some (.inr (.inr (.inr M)))
  ) else (
    if (M a0 13) = 0 then (
      zbd (zloop zN (fun v => b_X12_expression_23 R v a0 x1) M) fun e16 =>
      zbd (f_X12_unit R e16 a0) fun M17 =>
      if (M17 a0 13) ≤ 0 then (
        zbd (zloop zN (fun v => b_X12_expression_96 R v a0 x1) M17) fun e30 =>
        zbd (f_X12_is R e30 a0 (8 : Int32)) fun r31 =>
        if r31 = 0 then (
          zbd (f_X12_is R e30 a0 (9 : Int32)) fun r49 =>
          if r49 = 0 then (
            zbd (f_X12_is R e30 a0 (10 : Int32)) fun r52 =>
            if r52 = 0 then (
              zbd (f_X12_is R e30 a0 (15 : Int32)) fun r55 =>
              if r55 = 0 then (
                j_X12_expression_186 R e30 a0 x1 (0 : Int32)
              ) else (
                j_X12_expression_181 R e30 a0 x1
              )
            ) else (
              j_X12_expression_181 R e30 a0 x1
            )
          ) else (
            j_X12_expression_181 R e30 a0 x1
          )
        ) else (
          j_X12_expression_181 R e30 a0 x1
        )
      ) else (
        some (.inr (.inl M17))
      )
    ) else (
      some (.inr (.inr (.inr M)))
    )
  )
set_option maxRecDepth 4000 in
theorem ok_b_X12_expression_12 {G : zG} {K : zK} {R : zR} {M : zM} {L : zL} (hW : zWT R K) {a0 : Nat} {x1 : Int32} {x2 : Int32} (k_a0 : K[a0]? = some (12, 61)) {r : Option Value} {S' : zS} {x : (Int32 × zM) ⊕ ((zM) ⊕ (zM) ⊕ (zM))} (h : b_X12_expression_12 R M a0 x1 x2 = some x) (hk : Sum.elim (P_X12_expression_12 G K R L a0 x1 r S') (Q_X12_expression_12 G K R L a0 x1 r S') x) : P_X12_expression_12 G K R L a0 x1 r S' (x2, M) := by
  show Rn G mt_X12_expression 12 [(0, .ref a0), (1, .int x1), (2, .int x2)] [] (M, L, R, K) r S'
  unfold b_X12_expression_12 at h
  refine rn_iload_n (q := 2) 2 rfl zd_X12_expression_0.2.1.1.1 ?_
  rcases zif_e h with ⟨hc2, h⟩ | ⟨hc2, h⟩
  · refine rn_if_eq_t (tgt := 272) hc2 zd_X12_expression_0.2.1.1.2 rfl ?_
    cases h
    exact rn_sub (ls' := []) [] rfl hk
  · refine rn_if_eq_f (tgt := 272) hc2 zd_X12_expression_0.2.1.1.2 rfl ?_
    refine rn_aload_n (q := 0) 0 rfl zd_X12_expression_0.2.1.2.1 ?_
    refine rn_getI zf_X12_182 (Or.inl rfl) k_a0 zd_X12_expression_0.2.1.2.2 ?_
    rcases zif_e h with ⟨hc3, h⟩ | ⟨hc3, h⟩
    · refine rn_if_ne_f (tgt := 272) hc3 zd_X12_expression_0.2.2.1.1 rfl ?_
      obtain ⟨e16, he16, h⟩ := zbd_e h
      refine rn_sub (ls' := [(0, .ref a0), (1, .int x1)]) [0, 1] rfl (zloop_ok (P := P_X12_expression_23 G K R L a0 x1 r S') (Q := Q_X12_expression_23 G K R L a0 x1 r S') (fun v x hx hq => ok_b_X12_expression_23 hW k_a0 hx hq) _ _ _ he16 ?_)
      show Rn G mt_X12_expression 84 [(0, .ref a0), (1, .int x1)] [] (e16, L, R, K) r S'
      refine rn_aload_n (q := 0) 0 rfl zd_X12_expression_2.2.2.1.2 ?_
      obtain ⟨M17, h18, h⟩ := zbd_e h
      refine rn_callVv (As := []) (rest := []) zl_X12_265 zm_X12_unit ⟨by decide, by decide⟩ (ci := 12) rfl rfl (by decide) k_a0 rfl rfl (Nat.le_of_ble_eq_true rfl) zd_X12_expression_2.2.2.2.1 (ok_X12_unit hW k_a0 h18) ?_
      refine rn_aload_n (q := 0) 0 rfl zd_X12_expression_2.2.2.2.2 ?_
      refine rn_getI zf_X12_182 (Or.inl rfl) k_a0 zd_X12_expression_3.1.1.1.1 ?_
      rcases zif_e h with ⟨hc19, h⟩ | ⟨hc19, h⟩
      · refine rn_if_le_t (tgt := 96) hc19 zd_X12_expression_3.1.1.1.2 rfl ?_
        obtain ⟨e30, he30, h⟩ := zbd_e h
        refine rn_sub (ls' := [(0, .ref a0), (1, .int x1)]) [0, 1] rfl (zloop_ok (P := P_X12_expression_96 G K R L a0 x1 r S') (Q := Q_X12_expression_96 G K R L a0 x1 r S') (fun v x hx hq => ok_b_X12_expression_96 hW k_a0 hx hq) _ _ _ he30 ?_)
        show Rn G mt_X12_expression 145 [(0, .ref a0), (1, .int x1)] [] (e30, L, R, K) r S'
        refine rn_aload_n (q := 0) 0 rfl zd_X12_expression_4.2.2.1.2 ?_
        refine rn_bipush (v := 8) zd_X12_expression_4.2.2.2.1 rfl ?_
        obtain ⟨r31, h32, h⟩ := zbd_e h
        refine rn_callVi (As := [.int (8 : Int32)]) (rest := []) zl_X12_200 zm_X12_is ⟨by decide, by decide⟩ (ci := 12) rfl rfl (by decide) k_a0 rfl rfl (Nat.le_of_ble_eq_true rfl) zd_X12_expression_4.2.2.2.2 (ok_X12_is hW k_a0 h32) ?_
        rcases zif_e h with ⟨hc33, h⟩ | ⟨hc33, h⟩
        · refine rn_if_ne_f (tgt := 181) hc33 zd_X12_expression_5.1.1.1.1 rfl ?_
          refine rn_aload_n (q := 0) 0 rfl zd_X12_expression_5.1.1.1.2 ?_
          refine rn_bipush (v := 9) zd_X12_expression_5.1.1.2.1 rfl ?_
          obtain ⟨r49, h50, h⟩ := zbd_e h
          refine rn_callVi (As := [.int (9 : Int32)]) (rest := []) zl_X12_200 zm_X12_is ⟨by decide, by decide⟩ (ci := 12) rfl rfl (by decide) k_a0 rfl rfl (Nat.le_of_ble_eq_true rfl) zd_X12_expression_5.1.1.2.2 (ok_X12_is hW k_a0 h50) ?_
          rcases zif_e h with ⟨hc51, h⟩ | ⟨hc51, h⟩
          · refine rn_if_ne_f (tgt := 181) hc51 zd_X12_expression_5.1.2.1.1 rfl ?_
            refine rn_aload_n (q := 0) 0 rfl zd_X12_expression_5.1.2.1.2 ?_
            refine rn_bipush (v := 10) zd_X12_expression_5.1.2.2.1 rfl ?_
            obtain ⟨r52, h53, h⟩ := zbd_e h
            refine rn_callVi (As := [.int (10 : Int32)]) (rest := []) zl_X12_200 zm_X12_is ⟨by decide, by decide⟩ (ci := 12) rfl rfl (by decide) k_a0 rfl rfl (Nat.le_of_ble_eq_true rfl) zd_X12_expression_5.1.2.2.2 (ok_X12_is hW k_a0 h53) ?_
            rcases zif_e h with ⟨hc54, h⟩ | ⟨hc54, h⟩
            · refine rn_if_ne_f (tgt := 181) hc54 zd_X12_expression_5.2.1.1.1 rfl ?_
              refine rn_aload_n (q := 0) 0 rfl zd_X12_expression_5.2.1.1.2 ?_
              refine rn_bipush (v := 15) zd_X12_expression_5.2.1.2.1 rfl ?_
              obtain ⟨r55, h56, h⟩ := zbd_e h
              refine rn_callVi (As := [.int (15 : Int32)]) (rest := []) zl_X12_200 zm_X12_is ⟨by decide, by decide⟩ (ci := 12) rfl rfl (by decide) k_a0 rfl rfl (Nat.le_of_ble_eq_true rfl) zd_X12_expression_5.2.1.2.2 (ok_X12_is hW k_a0 h56) ?_
              rcases zif_e h with ⟨hc57, h⟩ | ⟨hc57, h⟩
              · refine rn_if_eq_t (tgt := 185) hc57 zd_X12_expression_5.2.2.1.1 rfl ?_
                refine rn_iconst (v := 0) zd_X12_expression_5.2.2.2.2 rfl ?_
                exact rn_sub (ls' := [(0, .ref a0), (1, .int x1)]) [0, 1] rfl (ok_j_X12_expression_186 hW k_a0 h hk)
              · refine rn_if_eq_f (tgt := 185) hc57 zd_X12_expression_5.2.2.1.1 rfl ?_
                exact rn_sub (ls' := [(0, .ref a0), (1, .int x1)]) [0, 1] rfl (ok_j_X12_expression_181 hW k_a0 h hk)
            · refine rn_if_ne_t (tgt := 181) hc54 zd_X12_expression_5.2.1.1.1 rfl ?_
              exact rn_sub (ls' := [(0, .ref a0), (1, .int x1)]) [0, 1] rfl (ok_j_X12_expression_181 hW k_a0 h hk)
          · refine rn_if_ne_t (tgt := 181) hc51 zd_X12_expression_5.1.2.1.1 rfl ?_
            exact rn_sub (ls' := [(0, .ref a0), (1, .int x1)]) [0, 1] rfl (ok_j_X12_expression_181 hW k_a0 h hk)
        · refine rn_if_ne_t (tgt := 181) hc33 zd_X12_expression_5.1.1.1.1 rfl ?_
          exact rn_sub (ls' := [(0, .ref a0), (1, .int x1)]) [0, 1] rfl (ok_j_X12_expression_181 hW k_a0 h hk)
      · refine rn_if_le_f (tgt := 96) hc19 zd_X12_expression_3.1.1.1.2 rfl ?_
        cases h
        exact rn_sub (ls' := []) [] rfl hk
    · refine rn_if_ne_t (tgt := 272) hc3 zd_X12_expression_0.2.2.1.1 rfl ?_
      cases h
      exact rn_sub (ls' := []) [] rfl hk
def j_X12_expression_204 (R : zR) (M : zM) (a0 : Nat) : Option (zM) :=
  zbd (f_X12_comesOut R M a0 (0 : Int32)) fun M64 =>
  some M64
set_option maxRecDepth 4000 in
theorem ok_j_X12_expression_204 {G : zG} {K : zK} {R : zR} {M : zM} {L : zL} (hW : zWT R K) {a0 : Nat} (k_a0 : K[a0]? = some (12, 61)) {M' : zM} (h : j_X12_expression_204 R M a0 = some M') : Rn G mt_X12_expression 204 [(0, .ref a0)] [] (M, L, R, K) none (M', L, R, K) := by
  unfold j_X12_expression_204 at h
  refine rn_aload_n (q := 0) 0 rfl zd_X12_expression_6.2.1.2.1 ?_
  refine rn_iconst (v := 0) zd_X12_expression_6.2.1.2.2 rfl ?_
  obtain ⟨M64, h65, h⟩ := zbd_e h
  refine rn_callVv (As := [.int (0 : Int32)]) (rest := []) zl_X12_268 zm_X12_comesOut ⟨by decide, by decide⟩ (ci := 12) rfl rfl (by decide) k_a0 rfl rfl (Nat.le_of_ble_eq_true rfl) zd_X12_expression_6.2.2.1.1 (ok_X12_comesOut hW k_a0 h65) ?_
  cases h
  exact rn_vret zd_X12_expression_6.2.2.1.2 rfl
def f_X12_expression (R : zR) (M : zM) (a0 : Nat) : Option (zM) :=
  zlt (zup M a0 41 (0 : Int32)) fun M1 =>
  zbd (zloop zN (fun v => b_X12_expression_12 R v.2 a0 (M1 a0 12) v.1) ((1 : Int32), M1)) fun e58 =>
  Sum.elim (fun e59 =>
    some e59
  ) (fun e60 =>
    Sum.elim (fun e61 =>
      if (e61 a0 12) ≤ (M1 a0 12) then (
        j_X12_expression_204 R e61 a0
      ) else (
        zbd (f_X12_fail R e61 a0 (1 : Int32)) fun M66 =>
        j_X12_expression_204 R M66 a0
      )
    ) (fun e62 =>
      some e62
    ) e60
  ) e58
set_option maxRecDepth 4000 in
theorem ok_X12_expression {G : zG} {K : zK} {R : zR} {M : zM} {L : zL} (hW : zWT R K) {a0 : Nat} (k_a0 : K[a0]? = some (12, 61)) {M' : zM} (h : f_X12_expression R M a0 = some M') : Rm G mt_X12_expression [.ref a0] (M, L, R, K) none (M', L, R, K) := by
  refine rm_rn rfl rfl (Nat.le_of_ble_eq_true rfl) ?_
  show Rn G mt_X12_expression 0 [(0, .ref a0)] [] (M, L, R, K) none (M', L, R, K)
  unfold f_X12_expression at h
  refine rn_aload_n (q := 0) 0 rfl zd_X12_expression_0.1.1.1.1 ?_
  refine rn_iconst (v := 0) zd_X12_expression_0.1.1.1.2 rfl ?_
  obtain ⟨M1, hM1, h⟩ := zlt_e h
  refine rn_putI hM1 zf_X12_259 k_a0 zd_X12_expression_0.1.1.2.1 ?_
  refine rn_aload_n (q := 0) 0 rfl zd_X12_expression_0.1.1.2.2 ?_
  refine rn_getI zf_X12_209 (Or.inl rfl) k_a0 zd_X12_expression_0.1.2.1.1 ?_
  refine rn_istore_n (q := 1) (ls' := [(1, .int (M1 a0 12)), (0, .ref a0)]) (by decide) rfl zd_X12_expression_0.1.2.1.2 ?_
  refine rn_iconst (v := 1) zd_X12_expression_0.1.2.2.1 rfl ?_
  refine rn_istore_n (q := 2) (ls' := [(2, .int (1 : Int32)), (1, .int (M1 a0 12)), (0, .ref a0)]) (by decide) rfl zd_X12_expression_0.1.2.2.2 ?_
  obtain ⟨e58, he58, h⟩ := zbd_e h
  refine rn_sub (ls' := [(0, .ref a0), (1, .int (M1 a0 12)), (2, .int (1 : Int32))]) [2, 1, 0] rfl (zloop_ok (P := P_X12_expression_12 G K R L a0 (M1 a0 12) none (M', L, R, K)) (Q := Q_X12_expression_12 G K R L a0 (M1 a0 12) none (M', L, R, K)) (fun v x hx hq => ok_b_X12_expression_12 hW k_a0 hx hq) _ _ _ he58 ?_)
  rcases e58 with e59 | e60
  · rw [Sum.elim_inl] at h
    show Rn G mt_X12_expression 95 [] [] (e59, L, R, K) none (M', L, R, K)
    cases h
    exact rn_vret zd_X12_expression_3.1.1.2.1 rfl
  · rw [Sum.elim_inr] at h
    rcases e60 with e61 | e62
    · rw [Sum.elim_inl] at h
      show Rn G mt_X12_expression 191 [(0, .ref a0), (1, .int (M1 a0 12))] [] (e61, L, R, K) none (M', L, R, K)
      refine rn_aload_n (q := 0) 0 rfl zd_X12_expression_6.1.1.2.2 ?_
      refine rn_getI zf_X12_209 (Or.inl rfl) k_a0 zd_X12_expression_6.1.2.1.1 ?_
      refine rn_iload_n (q := 1) 1 rfl zd_X12_expression_6.1.2.1.2 ?_
      rcases zif_e h with ⟨hc63, h⟩ | ⟨hc63, h⟩
      · refine rn_icmp_le_t (tgt := 204) hc63 zd_X12_expression_6.1.2.2.1 rfl ?_
        exact rn_sub (ls' := [(0, .ref a0)]) [0] rfl (ok_j_X12_expression_204 hW k_a0 h)
      · refine rn_icmp_le_f (tgt := 204) hc63 zd_X12_expression_6.1.2.2.1 rfl ?_
        refine rn_aload_n (q := 0) 0 rfl zd_X12_expression_6.1.2.2.2 ?_
        refine rn_iconst (v := 1) zd_X12_expression_6.2.1.1.1 rfl ?_
        obtain ⟨M66, h67, h⟩ := zbd_e h
        refine rn_callVv (As := [.int (1 : Int32)]) (rest := []) zl_X12_197 zm_X12_fail ⟨by decide, by decide⟩ (ci := 12) rfl rfl (by decide) k_a0 rfl rfl (Nat.le_of_ble_eq_true rfl) zd_X12_expression_6.2.1.1.2 (ok_X12_fail hW k_a0 h67) ?_
        exact rn_sub (ls' := [(0, .ref a0)]) [0] rfl (ok_j_X12_expression_204 hW k_a0 h)
    · rw [Sum.elim_inr] at h
      show Rn G mt_X12_expression 272 [] [] (e62, L, R, K) none (M', L, R, K)
      cases h
      exact rn_vret zd_X12_expression_8.2.2.2.2 rfl
def j_X12_term_24 (R : zR) (M : zM) (a0 : Nat) : Option (zM) :=
  zck (zin (M a0 31) 260) <|
  zlt (zup M (R a0 36) (ztn (M a0 31)) (M a0 37)) fun M5 =>
  zlt (zup M5 a0 31 ((M5 a0 31) + (1 : Int32))) fun M6 =>
  some M6
set_option maxRecDepth 4000 in
theorem ok_j_X12_term_24 {G : zG} {K : zK} {R : zR} {M : zM} {L : zL} (hW : zWT R K) {a0 : Nat} (k_a0 : K[a0]? = some (12, 61)) {M' : zM} (h : j_X12_term_24 R M a0 = some M') : Rn G mt_X12_term 24 [(0, .ref a0)] [] (M, L, R, K) none (M', L, R, K) := by
  unfold j_X12_term_24 at h
  refine rn_aload_n (q := 0) 0 rfl zd_X12_term_0.2.2.1.1 ?_
  refine rn_getR zf_X12_83 (Or.inr ⟨_, rfl⟩) k_a0 (zx_12_36 hW k_a0) zd_X12_term_0.2.2.1.2 ?_
  refine rn_aload_n (q := 0) 0 rfl zd_X12_term_0.2.2.2.1 ?_
  refine rn_getI zf_X12_221 (Or.inl rfl) k_a0 zd_X12_term_0.2.2.2.2 ?_
  refine rn_aload_n (q := 0) 0 rfl zd_X12_term_1.1.1.1 ?_
  refine rn_getI zf_X12_224 (Or.inl rfl) k_a0 zd_X12_term_1.1.1.2 ?_
  obtain ⟨hc4, h⟩ := zck_e h
  obtain ⟨M5, hM5, h⟩ := zlt_e h
  refine rn_iast hM5 (zw_12_36 hW k_a0) hc4 zd_X12_term_1.1.2.1 ?_
  refine rn_aload_n (q := 0) 0 rfl zd_X12_term_1.1.2.2.1 ?_
  refine rn_dup zd_X12_term_1.1.2.2.2 rfl ?_
  refine rn_getI zf_X12_221 (Or.inl rfl) k_a0 zd_X12_term_1.2.1.1 ?_
  refine rn_iconst (v := 1) zd_X12_term_1.2.1.2 rfl ?_
  refine rn_iadd zd_X12_term_1.2.2.1 ?_
  obtain ⟨M6, hM6, h⟩ := zlt_e h
  refine rn_putI hM6 zf_X12_221 k_a0 zd_X12_term_1.2.2.2.1 ?_
  cases h
  exact rn_vret zd_X12_term_1.2.2.2.2 rfl
def f_X12_term (R : zR) (M : zM) (a0 : Nat) : Option (zM) :=
  zck (zin (M a0 31) 260) <|
  zlt (zup M (R a0 35) (ztn (M a0 31)) (M a0 37)) fun M2 =>
  if (M2 a0 13) = 0 then (
    zbd (f_X12_expression R M2 a0) fun M7 =>
    j_X12_term_24 R M7 a0
  ) else (
    j_X12_term_24 R M2 a0
  )
set_option maxRecDepth 4000 in
theorem ok_X12_term {G : zG} {K : zK} {R : zR} {M : zM} {L : zL} (hW : zWT R K) {a0 : Nat} (k_a0 : K[a0]? = some (12, 61)) {M' : zM} (h : f_X12_term R M a0 = some M') : Rm G mt_X12_term [.ref a0] (M, L, R, K) none (M', L, R, K) := by
  refine rm_rn rfl rfl (Nat.le_of_ble_eq_true rfl) ?_
  show Rn G mt_X12_term 0 [(0, .ref a0)] [] (M, L, R, K) none (M', L, R, K)
  unfold f_X12_term at h
  refine rn_aload_n (q := 0) 0 rfl zd_X12_term_0.1.1.1.1 ?_
  refine rn_getR zf_X12_80 (Or.inr ⟨_, rfl⟩) k_a0 (zx_12_35 hW k_a0) zd_X12_term_0.1.1.1.2 ?_
  refine rn_aload_n (q := 0) 0 rfl zd_X12_term_0.1.1.2.1 ?_
  refine rn_getI zf_X12_221 (Or.inl rfl) k_a0 zd_X12_term_0.1.1.2.2 ?_
  refine rn_aload_n (q := 0) 0 rfl zd_X12_term_0.1.2.1.1 ?_
  refine rn_getI zf_X12_224 (Or.inl rfl) k_a0 zd_X12_term_0.1.2.1.2 ?_
  obtain ⟨hc1, h⟩ := zck_e h
  obtain ⟨M2, hM2, h⟩ := zlt_e h
  refine rn_iast hM2 (zw_12_35 hW k_a0) hc1 zd_X12_term_0.1.2.2.1 ?_
  refine rn_aload_n (q := 0) 0 rfl zd_X12_term_0.1.2.2.2 ?_
  refine rn_getI zf_X12_182 (Or.inl rfl) k_a0 zd_X12_term_0.2.1.1.1 ?_
  rcases zif_e h with ⟨hc3, h⟩ | ⟨hc3, h⟩
  · refine rn_if_ne_f (tgt := 24) hc3 zd_X12_term_0.2.1.1.2 rfl ?_
    refine rn_aload_n (q := 0) 0 rfl zd_X12_term_0.2.1.2.1 ?_
    obtain ⟨M7, h8, h⟩ := zbd_e h
    refine rn_callVv (As := []) (rest := []) zl_X12_253 zm_X12_expression ⟨by decide, by decide⟩ (ci := 12) rfl rfl (by decide) k_a0 rfl rfl (Nat.le_of_ble_eq_true rfl) zd_X12_term_0.2.1.2.2 (ok_X12_expression hW k_a0 h8) ?_
    exact rn_sub (ls' := [(0, .ref a0)]) [0] rfl (ok_j_X12_term_24 hW k_a0 h)
  · refine rn_if_ne_t (tgt := 24) hc3 zd_X12_term_0.2.1.1.2 rfl ?_
    exact rn_sub (ls' := [(0, .ref a0)]) [0] rfl (ok_j_X12_term_24 hW k_a0 h)
abbrev P_X12_tellLaw_12 (G : zG) (K : zK) (R : zR) (L : zL) (a0 : Nat) (x1 : Int32) (x2 : Int32) (r : Option Value) (S' : zS) (v : Int32 × zM) : Prop := Rn G mt_X12_tellLaw 12 [(0, .ref a0), (1, .int x1), (2, .int x2), (3, .int v.1)] [] (v.2, L, R, K) r S'
abbrev Q_X12_tellLaw_12 (G : zG) (K : zK) (R : zR) (L : zL) (a0 : Nat) (x1 : Int32) (x2 : Int32) (r : Option Value) (S' : zS) : (zM) ⊕ (zM) → Prop := (Sum.elim (fun e => Rn G mt_X12_tellLaw 45 [] [] (e, L, R, K) r S') (fun e => Rn G mt_X12_tellLaw 129 [(0, .ref a0), (1, .int x1), (2, .int x2)] [] (e, L, R, K) r S'))
def j_X12_tellLaw_110 (R : zR) (M : zM) (a0 : Nat) (x1 : Int32) (x2 : Int32) (x3 : Int32) : Option ((Int32 × zM) ⊕ ((zM) ⊕ (zM))) :=
  zbd (f_X12_must R M a0 (31 : Int32)) fun M22 =>
  zbd (f_X12_term R M22 a0) fun M24 =>
  zbd (f_X12_must R M24 a0 (32 : Int32)) fun M26 =>
  some (.inl (x3, M26))
set_option maxRecDepth 4000 in
theorem ok_j_X12_tellLaw_110 {G : zG} {K : zK} {R : zR} {M : zM} {L : zL} (hW : zWT R K) {a0 : Nat} {x1 : Int32} {x2 : Int32} {x3 : Int32} (k_a0 : K[a0]? = some (12, 61)) {r : Option Value} {S' : zS} {x : (Int32 × zM) ⊕ ((zM) ⊕ (zM))} (h : j_X12_tellLaw_110 R M a0 x1 x2 x3 = some x) (hk : Sum.elim (P_X12_tellLaw_12 G K R L a0 x1 x2 r S') (Q_X12_tellLaw_12 G K R L a0 x1 x2 r S') x) : Rn G mt_X12_tellLaw 110 [(0, .ref a0), (1, .int x1), (2, .int x2), (3, .int x3)] [] (M, L, R, K) r S' := by
  unfold j_X12_tellLaw_110 at h
  refine rn_aload_n (q := 0) 0 rfl zd_X12_tellLaw_3.2.1.2.1 ?_
  refine rn_bipush (v := 31) zd_X12_tellLaw_3.2.1.2.2 rfl ?_
  obtain ⟨M22, h23, h⟩ := zbd_e h
  refine rn_callVv (As := [.int (31 : Int32)]) (rest := []) zl_X12_239 zm_X12_must ⟨by decide, by decide⟩ (ci := 12) rfl rfl (by decide) k_a0 rfl rfl (Nat.le_of_ble_eq_true rfl) zd_X12_tellLaw_3.2.2.1.1 (ok_X12_must hW k_a0 h23) ?_
  refine rn_aload_n (q := 0) 0 rfl zd_X12_tellLaw_3.2.2.1.2 ?_
  obtain ⟨M24, h25, h⟩ := zbd_e h
  refine rn_callVv (As := []) (rest := []) zl_X12_256 zm_X12_term ⟨by decide, by decide⟩ (ci := 12) rfl rfl (by decide) k_a0 rfl rfl (Nat.le_of_ble_eq_true rfl) zd_X12_tellLaw_3.2.2.2.1 (ok_X12_term hW k_a0 h25) ?_
  refine rn_aload_n (q := 0) 0 rfl zd_X12_tellLaw_3.2.2.2.2 ?_
  refine rn_bipush (v := 32) zd_X12_tellLaw_4.1.1.1.1 rfl ?_
  obtain ⟨M26, h27, h⟩ := zbd_e h
  refine rn_callVv (As := [.int (32 : Int32)]) (rest := []) zl_X12_239 zm_X12_must ⟨by decide, by decide⟩ (ci := 12) rfl rfl (by decide) k_a0 rfl rfl (Nat.le_of_ble_eq_true rfl) zd_X12_tellLaw_4.1.1.1.2 (ok_X12_must hW k_a0 h27) ?_
  refine rn_goto (tgt := 12) zd_X12_tellLaw_4.1.1.2.1 rfl ?_
  cases h
  exact rn_sub (ls' := [(0, .ref a0), (1, .int x1), (2, .int x2), (3, .int x3)]) [0, 1, 2, 3] rfl hk
def j_X12_tellLaw_38 (R : zR) (M : zM) (a0 : Nat) (x1 : Int32) (x2 : Int32) (x3 : Int32) : Option ((Int32 × zM) ⊕ ((zM) ⊕ (zM))) :=
  if (M a0 13) ≤ 0 then (
    zbd (f_X12_goesOn R M a0) fun M9 =>
    zck (zin (M9 a0 31) 260) <|
    zlt (zup M9 (R a0 32) (ztn (M9 a0 31)) (1 : Int32)) fun M12 =>
    zck (zin (M12 a0 31) 260) <|
    zlt (zup M12 (R a0 33) (ztn (M12 a0 31)) (M12 a0 37)) fun M14 =>
    zbd (f_X12_expression R M14 a0) fun M15 =>
    zbd (f_X12_must R M15 a0 (13 : Int32)) fun M17 =>
    zck (zin (M17 a0 31) 260) <|
    zlt (zup M17 (R a0 34) (ztn (M17 a0 31)) (M17 a0 37)) fun M20 =>
    if (M20 a0 13) = 0 then (
      zbd (f_X12_expression R M20 a0) fun M28 =>
      j_X12_tellLaw_110 R M28 a0 x1 x2 (x3 + 1)
    ) else (
      j_X12_tellLaw_110 R M20 a0 x1 x2 (x3 + 1)
    )
  ) else (
    some (.inr (.inl M))
  )
set_option maxRecDepth 4000 in
theorem ok_j_X12_tellLaw_38 {G : zG} {K : zK} {R : zR} {M : zM} {L : zL} (hW : zWT R K) {a0 : Nat} {x1 : Int32} {x2 : Int32} {x3 : Int32} (k_a0 : K[a0]? = some (12, 61)) {r : Option Value} {S' : zS} {x : (Int32 × zM) ⊕ ((zM) ⊕ (zM))} (h : j_X12_tellLaw_38 R M a0 x1 x2 x3 = some x) (hk : Sum.elim (P_X12_tellLaw_12 G K R L a0 x1 x2 r S') (Q_X12_tellLaw_12 G K R L a0 x1 x2 r S') x) : Rn G mt_X12_tellLaw 38 [(0, .ref a0), (1, .int x1), (2, .int x2), (3, .int x3)] [] (M, L, R, K) r S' := by
  unfold j_X12_tellLaw_38 at h
  refine rn_aload_n (q := 0) 0 rfl zd_X12_tellLaw_1.1.2.1.2 ?_
  refine rn_getI zf_X12_182 (Or.inl rfl) k_a0 zd_X12_tellLaw_1.1.2.2.1 ?_
  rcases zif_e h with ⟨hc8, h⟩ | ⟨hc8, h⟩
  · refine rn_if_le_t (tgt := 46) hc8 zd_X12_tellLaw_1.1.2.2.2 rfl ?_
    refine rn_iinc (v := (x3 + 1)) (ls' := [(3, .int (x3 + 1)), (0, .ref a0), (1, .int x1), (2, .int x2)]) 3 rfl rfl (by decide) rfl zd_X12_tellLaw_1.2.1.1.2 ?_
    refine rn_aload_n (q := 0) 1 rfl zd_X12_tellLaw_1.2.1.2.1 ?_
    obtain ⟨M9, h10, h⟩ := zbd_e h
    refine rn_callVv (As := []) (rest := []) zl_X12_203 zm_X12_goesOn ⟨by decide, by decide⟩ (ci := 12) rfl rfl (by decide) k_a0 rfl rfl (Nat.le_of_ble_eq_true rfl) zd_X12_tellLaw_1.2.1.2.2 (ok_X12_goesOn hW k_a0 h10) ?_
    refine rn_aload_n (q := 0) 1 rfl zd_X12_tellLaw_1.2.2.1.1 ?_
    refine rn_getR zf_X12_71 (Or.inr ⟨_, rfl⟩) k_a0 (zx_12_32 hW k_a0) zd_X12_tellLaw_1.2.2.1.2 ?_
    refine rn_aload_n (q := 0) 1 rfl zd_X12_tellLaw_1.2.2.2.1 ?_
    refine rn_getI zf_X12_221 (Or.inl rfl) k_a0 zd_X12_tellLaw_1.2.2.2.2 ?_
    refine rn_iconst (v := 1) zd_X12_tellLaw_2.1.1.1.1 rfl ?_
    obtain ⟨hc11, h⟩ := zck_e h
    obtain ⟨M12, hM12, h⟩ := zlt_e h
    refine rn_zast rfl hM12 (zw_12_32 hW k_a0) hc11 zd_X12_tellLaw_2.1.1.1.2 ?_
    refine rn_aload_n (q := 0) 1 rfl zd_X12_tellLaw_2.1.1.2.1 ?_
    refine rn_getR zf_X12_74 (Or.inr ⟨_, rfl⟩) k_a0 (zx_12_33 hW k_a0) zd_X12_tellLaw_2.1.1.2.2 ?_
    refine rn_aload_n (q := 0) 1 rfl zd_X12_tellLaw_2.1.2.1.1 ?_
    refine rn_getI zf_X12_221 (Or.inl rfl) k_a0 zd_X12_tellLaw_2.1.2.1.2 ?_
    refine rn_aload_n (q := 0) 1 rfl zd_X12_tellLaw_2.1.2.2.1 ?_
    refine rn_getI zf_X12_224 (Or.inl rfl) k_a0 zd_X12_tellLaw_2.1.2.2.2 ?_
    obtain ⟨hc13, h⟩ := zck_e h
    obtain ⟨M14, hM14, h⟩ := zlt_e h
    refine rn_iast hM14 (zw_12_33 hW k_a0) hc13 zd_X12_tellLaw_2.2.1.1.1 ?_
    refine rn_aload_n (q := 0) 1 rfl zd_X12_tellLaw_2.2.1.1.2 ?_
    obtain ⟨M15, h16, h⟩ := zbd_e h
    refine rn_callVv (As := []) (rest := []) zl_X12_253 zm_X12_expression ⟨by decide, by decide⟩ (ci := 12) rfl rfl (by decide) k_a0 rfl rfl (Nat.le_of_ble_eq_true rfl) zd_X12_tellLaw_2.2.1.2.1 (ok_X12_expression hW k_a0 h16) ?_
    refine rn_aload_n (q := 0) 1 rfl zd_X12_tellLaw_2.2.1.2.2 ?_
    refine rn_bipush (v := 13) zd_X12_tellLaw_2.2.2.1.1 rfl ?_
    obtain ⟨M17, h18, h⟩ := zbd_e h
    refine rn_callVv (As := [.int (13 : Int32)]) (rest := []) zl_X12_239 zm_X12_must ⟨by decide, by decide⟩ (ci := 12) rfl rfl (by decide) k_a0 rfl rfl (Nat.le_of_ble_eq_true rfl) zd_X12_tellLaw_2.2.2.1.2 (ok_X12_must hW k_a0 h18) ?_
    refine rn_aload_n (q := 0) 1 rfl zd_X12_tellLaw_2.2.2.2.1 ?_
    refine rn_getR zf_X12_77 (Or.inr ⟨_, rfl⟩) k_a0 (zx_12_34 hW k_a0) zd_X12_tellLaw_2.2.2.2.2 ?_
    refine rn_aload_n (q := 0) 1 rfl zd_X12_tellLaw_3.1.1.1.1 ?_
    refine rn_getI zf_X12_221 (Or.inl rfl) k_a0 zd_X12_tellLaw_3.1.1.1.2 ?_
    refine rn_aload_n (q := 0) 1 rfl zd_X12_tellLaw_3.1.1.2.1 ?_
    refine rn_getI zf_X12_224 (Or.inl rfl) k_a0 zd_X12_tellLaw_3.1.1.2.2 ?_
    obtain ⟨hc19, h⟩ := zck_e h
    obtain ⟨M20, hM20, h⟩ := zlt_e h
    refine rn_iast hM20 (zw_12_34 hW k_a0) hc19 zd_X12_tellLaw_3.1.2.1.1 ?_
    refine rn_aload_n (q := 0) 1 rfl zd_X12_tellLaw_3.1.2.1.2 ?_
    refine rn_getI zf_X12_182 (Or.inl rfl) k_a0 zd_X12_tellLaw_3.1.2.2.1 ?_
    rcases zif_e h with ⟨hc21, h⟩ | ⟨hc21, h⟩
    · refine rn_if_ne_f (tgt := 110) hc21 zd_X12_tellLaw_3.1.2.2.2 rfl ?_
      refine rn_aload_n (q := 0) 1 rfl zd_X12_tellLaw_3.2.1.1.1 ?_
      obtain ⟨M28, h29, h⟩ := zbd_e h
      refine rn_callVv (As := []) (rest := []) zl_X12_253 zm_X12_expression ⟨by decide, by decide⟩ (ci := 12) rfl rfl (by decide) k_a0 rfl rfl (Nat.le_of_ble_eq_true rfl) zd_X12_tellLaw_3.2.1.1.2 (ok_X12_expression hW k_a0 h29) ?_
      exact rn_sub (ls' := [(0, .ref a0), (1, .int x1), (2, .int x2), (3, .int (x3 + 1))]) [1, 2, 3, 0] rfl (ok_j_X12_tellLaw_110 hW k_a0 h hk)
    · refine rn_if_ne_t (tgt := 110) hc21 zd_X12_tellLaw_3.1.2.2.2 rfl ?_
      exact rn_sub (ls' := [(0, .ref a0), (1, .int x1), (2, .int x2), (3, .int (x3 + 1))]) [1, 2, 3, 0] rfl (ok_j_X12_tellLaw_110 hW k_a0 h hk)
  · refine rn_if_le_f (tgt := 46) hc8 zd_X12_tellLaw_1.1.2.2.2 rfl ?_
    cases h
    exact rn_sub (ls' := []) [] rfl hk
def b_X12_tellLaw_12 (R : zR) (M : zM) (a0 : Nat) (x1 : Int32) (x2 : Int32) (x3 : Int32) : Option ((Int32 × zM) ⊕ ((zM) ⊕ (zM))) :=
  if (M a0 13) = 0 then (
    zbd (f_X12_is R M a0 (30 : Int32)) fun r4 =>
    if r4 = 0 then (
      some (.inr (.inr M))
    ) else (
      if x3 = (4 : Int32) then (
        zbd (f_X12_fail R M a0 (2 : Int32)) fun M30 =>
        j_X12_tellLaw_38 R M30 a0 x1 x2 x3
      ) else (
        j_X12_tellLaw_38 R M a0 x1 x2 x3
      )
    )
  ) else (
    some (.inr (.inr M))
  )
set_option maxRecDepth 4000 in
theorem ok_b_X12_tellLaw_12 {G : zG} {K : zK} {R : zR} {M : zM} {L : zL} (hW : zWT R K) {a0 : Nat} {x1 : Int32} {x2 : Int32} {x3 : Int32} (k_a0 : K[a0]? = some (12, 61)) {r : Option Value} {S' : zS} {x : (Int32 × zM) ⊕ ((zM) ⊕ (zM))} (h : b_X12_tellLaw_12 R M a0 x1 x2 x3 = some x) (hk : Sum.elim (P_X12_tellLaw_12 G K R L a0 x1 x2 r S') (Q_X12_tellLaw_12 G K R L a0 x1 x2 r S') x) : P_X12_tellLaw_12 G K R L a0 x1 x2 r S' (x3, M) := by
  show Rn G mt_X12_tellLaw 12 [(0, .ref a0), (1, .int x1), (2, .int x2), (3, .int x3)] [] (M, L, R, K) r S'
  unfold b_X12_tellLaw_12 at h
  refine rn_aload_n (q := 0) 0 rfl zd_X12_tellLaw_0.2.1.1.1 ?_
  refine rn_getI zf_X12_182 (Or.inl rfl) k_a0 zd_X12_tellLaw_0.2.1.1.2 ?_
  rcases zif_e h with ⟨hc3, h⟩ | ⟨hc3, h⟩
  · refine rn_if_ne_f (tgt := 129) hc3 zd_X12_tellLaw_0.2.1.2.1 rfl ?_
    refine rn_aload_n (q := 0) 0 rfl zd_X12_tellLaw_0.2.1.2.2 ?_
    refine rn_bipush (v := 30) zd_X12_tellLaw_0.2.2.1.1 rfl ?_
    obtain ⟨r4, h5, h⟩ := zbd_e h
    refine rn_callVi (As := [.int (30 : Int32)]) (rest := []) zl_X12_200 zm_X12_is ⟨by decide, by decide⟩ (ci := 12) rfl rfl (by decide) k_a0 rfl rfl (Nat.le_of_ble_eq_true rfl) zd_X12_tellLaw_0.2.2.1.2 (ok_X12_is hW k_a0 h5) ?_
    rcases zif_e h with ⟨hc6, h⟩ | ⟨hc6, h⟩
    · refine rn_if_eq_t (tgt := 129) hc6 zd_X12_tellLaw_0.2.2.2.1 rfl ?_
      cases h
      exact rn_sub (ls' := [(0, .ref a0), (1, .int x1), (2, .int x2)]) [0, 1, 2] rfl hk
    · refine rn_if_eq_f (tgt := 129) hc6 zd_X12_tellLaw_0.2.2.2.1 rfl ?_
      refine rn_iload_n (q := 3) 3 rfl zd_X12_tellLaw_0.2.2.2.2 ?_
      refine rn_iconst (v := 4) zd_X12_tellLaw_1.1.1.1.1 rfl ?_
      rcases zif_e h with ⟨hc7, h⟩ | ⟨hc7, h⟩
      · refine rn_icmp_ne_f (tgt := 38) hc7 zd_X12_tellLaw_1.1.1.1.2 rfl ?_
        refine rn_aload_n (q := 0) 0 rfl zd_X12_tellLaw_1.1.1.2.1 ?_
        refine rn_iconst (v := 2) zd_X12_tellLaw_1.1.1.2.2 rfl ?_
        obtain ⟨M30, h31, h⟩ := zbd_e h
        refine rn_callVv (As := [.int (2 : Int32)]) (rest := []) zl_X12_197 zm_X12_fail ⟨by decide, by decide⟩ (ci := 12) rfl rfl (by decide) k_a0 rfl rfl (Nat.le_of_ble_eq_true rfl) zd_X12_tellLaw_1.1.2.1.1 (ok_X12_fail hW k_a0 h31) ?_
        exact rn_sub (ls' := [(0, .ref a0), (1, .int x1), (2, .int x2), (3, .int x3)]) [0, 1, 2, 3] rfl (ok_j_X12_tellLaw_38 hW k_a0 h hk)
      · refine rn_icmp_ne_t (tgt := 38) hc7 zd_X12_tellLaw_1.1.1.1.2 rfl ?_
        exact rn_sub (ls' := [(0, .ref a0), (1, .int x1), (2, .int x2), (3, .int x3)]) [0, 1, 2, 3] rfl (ok_j_X12_tellLaw_38 hW k_a0 h hk)
  · refine rn_if_ne_t (tgt := 129) hc3 zd_X12_tellLaw_0.2.1.2.1 rfl ?_
    cases h
    exact rn_sub (ls' := [(0, .ref a0), (1, .int x1), (2, .int x2)]) [0, 1, 2] rfl hk
def f_X12_tellLaw (R : zR) (M : zM) (a0 : Nat) (x1 : Int32) : Option (zM) :=
  zbd (f_X12_must R M a0 (5 : Int32)) fun M1 =>
  zbd (zloop zN (fun v => b_X12_tellLaw_12 R v.2 a0 x1 (M1 a0 31) v.1) ((0 : Int32), M1)) fun e32 =>
  Sum.elim (fun e33 =>
    some e33
  ) (fun e34 =>
    zck (zin (e34 a0 31) 260) <|
    zlt (zup e34 (R a0 32) (ztn (e34 a0 31)) (0 : Int32)) fun M36 =>
    zbd (f_X12_term R M36 a0) fun M37 =>
    zbd (f_X12_must R M37 a0 (4 : Int32)) fun M39 =>
    if (M39 a0 13) ≤ 0 then (
      zck (zin (((2 : Int32) * (M39 a0 19)) + x1) 4) <|
      zlt (zup M39 (R a0 29) (ztn (((2 : Int32) * (M39 a0 19)) + x1)) (M1 a0 31)) fun M43 =>
      zck (zin (((2 : Int32) * (M43 a0 19)) + x1) 4) <|
      zlt (zup M43 (R a0 30) (ztn (((2 : Int32) * (M43 a0 19)) + x1)) (M43 a0 31)) fun M45 =>
      some M45
    ) else (
      some M39
    )
  ) e32
set_option maxRecDepth 4000 in
theorem ok_X12_tellLaw {G : zG} {K : zK} {R : zR} {M : zM} {L : zL} (hW : zWT R K) {a0 : Nat} {x1 : Int32} (k_a0 : K[a0]? = some (12, 61)) {M' : zM} (h : f_X12_tellLaw R M a0 x1 = some M') : Rm G mt_X12_tellLaw [.ref a0, .int x1] (M, L, R, K) none (M', L, R, K) := by
  refine rm_rn rfl rfl (Nat.le_of_ble_eq_true rfl) ?_
  show Rn G mt_X12_tellLaw 0 [(0, .ref a0), (1, .int x1)] [] (M, L, R, K) none (M', L, R, K)
  unfold f_X12_tellLaw at h
  refine rn_aload_n (q := 0) 0 rfl zd_X12_tellLaw_0.1.1.1.1 ?_
  refine rn_iconst (v := 5) zd_X12_tellLaw_0.1.1.1.2 rfl ?_
  obtain ⟨M1, h2, h⟩ := zbd_e h
  refine rn_callVv (As := [.int (5 : Int32)]) (rest := []) zl_X12_239 zm_X12_must ⟨by decide, by decide⟩ (ci := 12) rfl rfl (by decide) k_a0 rfl rfl (Nat.le_of_ble_eq_true rfl) zd_X12_tellLaw_0.1.1.2.1 (ok_X12_must hW k_a0 h2) ?_
  refine rn_aload_n (q := 0) 0 rfl zd_X12_tellLaw_0.1.1.2.2 ?_
  refine rn_getI zf_X12_221 (Or.inl rfl) k_a0 zd_X12_tellLaw_0.1.2.1.1 ?_
  refine rn_istore_n (q := 2) (ls' := [(2, .int (M1 a0 31)), (0, .ref a0), (1, .int x1)]) (by decide) rfl zd_X12_tellLaw_0.1.2.1.2 ?_
  refine rn_iconst (v := 0) zd_X12_tellLaw_0.1.2.2.1 rfl ?_
  refine rn_istore_n (q := 3) (ls' := [(3, .int (0 : Int32)), (2, .int (M1 a0 31)), (0, .ref a0), (1, .int x1)]) (by decide) rfl zd_X12_tellLaw_0.1.2.2.2 ?_
  obtain ⟨e32, he32, h⟩ := zbd_e h
  refine rn_sub (ls' := [(0, .ref a0), (1, .int x1), (2, .int (M1 a0 31)), (3, .int (0 : Int32))]) [2, 3, 1, 0] rfl (zloop_ok (P := P_X12_tellLaw_12 G K R L a0 x1 (M1 a0 31) none (M', L, R, K)) (Q := Q_X12_tellLaw_12 G K R L a0 x1 (M1 a0 31) none (M', L, R, K)) (fun v x hx hq => ok_b_X12_tellLaw_12 hW k_a0 hx hq) _ _ _ he32 ?_)
  rcases e32 with e33 | e34
  · rw [Sum.elim_inl] at h
    show Rn G mt_X12_tellLaw 45 [] [] (e33, L, R, K) none (M', L, R, K)
    cases h
    exact rn_vret zd_X12_tellLaw_1.2.1.1.1 rfl
  · rw [Sum.elim_inr] at h
    show Rn G mt_X12_tellLaw 129 [(0, .ref a0), (1, .int x1), (2, .int (M1 a0 31))] [] (e34, L, R, K) none (M', L, R, K)
    refine rn_aload_n (q := 0) 0 rfl zd_X12_tellLaw_4.1.1.2.2 ?_
    refine rn_getR zf_X12_71 (Or.inr ⟨_, rfl⟩) k_a0 (zx_12_32 hW k_a0) zd_X12_tellLaw_4.1.2.1.1 ?_
    refine rn_aload_n (q := 0) 0 rfl zd_X12_tellLaw_4.1.2.1.2 ?_
    refine rn_getI zf_X12_221 (Or.inl rfl) k_a0 zd_X12_tellLaw_4.1.2.2.1 ?_
    refine rn_iconst (v := 0) zd_X12_tellLaw_4.1.2.2.2 rfl ?_
    obtain ⟨hc35, h⟩ := zck_e h
    obtain ⟨M36, hM36, h⟩ := zlt_e h
    refine rn_zast rfl hM36 (zw_12_32 hW k_a0) hc35 zd_X12_tellLaw_4.2.1.1.1 ?_
    refine rn_aload_n (q := 0) 0 rfl zd_X12_tellLaw_4.2.1.1.2 ?_
    obtain ⟨M37, h38, h⟩ := zbd_e h
    refine rn_callVv (As := []) (rest := []) zl_X12_256 zm_X12_term ⟨by decide, by decide⟩ (ci := 12) rfl rfl (by decide) k_a0 rfl rfl (Nat.le_of_ble_eq_true rfl) zd_X12_tellLaw_4.2.1.2.1 (ok_X12_term hW k_a0 h38) ?_
    refine rn_aload_n (q := 0) 0 rfl zd_X12_tellLaw_4.2.1.2.2 ?_
    refine rn_iconst (v := 4) zd_X12_tellLaw_4.2.2.1.1 rfl ?_
    obtain ⟨M39, h40, h⟩ := zbd_e h
    refine rn_callVv (As := [.int (4 : Int32)]) (rest := []) zl_X12_239 zm_X12_must ⟨by decide, by decide⟩ (ci := 12) rfl rfl (by decide) k_a0 rfl rfl (Nat.le_of_ble_eq_true rfl) zd_X12_tellLaw_4.2.2.1.2 (ok_X12_must hW k_a0 h40) ?_
    refine rn_aload_n (q := 0) 0 rfl zd_X12_tellLaw_4.2.2.2.1 ?_
    refine rn_getI zf_X12_182 (Or.inl rfl) k_a0 zd_X12_tellLaw_4.2.2.2.2 ?_
    rcases zif_e h with ⟨hc41, h⟩ | ⟨hc41, h⟩
    · refine rn_if_le_t (tgt := 156) hc41 zd_X12_tellLaw_5.1.1.1.1 rfl ?_
      refine rn_aload_n (q := 0) 0 rfl zd_X12_tellLaw_5.1.1.2.1 ?_
      refine rn_getR zf_X12_65 (Or.inr ⟨_, rfl⟩) k_a0 (zx_12_29 hW k_a0) zd_X12_tellLaw_5.1.1.2.2 ?_
      refine rn_iconst (v := 2) zd_X12_tellLaw_5.1.2.1.1 rfl ?_
      refine rn_aload_n (q := 0) 0 rfl zd_X12_tellLaw_5.1.2.1.2 ?_
      refine rn_getI zf_X12_215 (Or.inl rfl) k_a0 zd_X12_tellLaw_5.1.2.2.1 ?_
      refine rn_imul zd_X12_tellLaw_5.1.2.2.2 ?_
      refine rn_iload_n (q := 1) 1 rfl zd_X12_tellLaw_5.2.1.1.1 ?_
      refine rn_iadd zd_X12_tellLaw_5.2.1.1.2 ?_
      refine rn_iload_n (q := 2) 2 rfl zd_X12_tellLaw_5.2.1.2.1 ?_
      obtain ⟨hc42, h⟩ := zck_e h
      obtain ⟨M43, hM43, h⟩ := zlt_e h
      refine rn_iast hM43 (zw_12_29 hW k_a0) hc42 zd_X12_tellLaw_5.2.1.2.2 ?_
      refine rn_aload_n (q := 0) 0 rfl zd_X12_tellLaw_5.2.2.1.1 ?_
      refine rn_getR zf_X12_68 (Or.inr ⟨_, rfl⟩) k_a0 (zx_12_30 hW k_a0) zd_X12_tellLaw_5.2.2.1.2 ?_
      refine rn_iconst (v := 2) zd_X12_tellLaw_5.2.2.2.1 rfl ?_
      refine rn_aload_n (q := 0) 0 rfl zd_X12_tellLaw_5.2.2.2.2 ?_
      refine rn_getI zf_X12_215 (Or.inl rfl) k_a0 zd_X12_tellLaw_6.1.1.1 ?_
      refine rn_imul zd_X12_tellLaw_6.1.1.2 ?_
      refine rn_iload_n (q := 1) 1 rfl zd_X12_tellLaw_6.1.2.1 ?_
      refine rn_iadd zd_X12_tellLaw_6.1.2.2 ?_
      refine rn_aload_n (q := 0) 0 rfl zd_X12_tellLaw_6.2.1.1 ?_
      refine rn_getI zf_X12_221 (Or.inl rfl) k_a0 zd_X12_tellLaw_6.2.1.2 ?_
      obtain ⟨hc44, h⟩ := zck_e h
      obtain ⟨M45, hM45, h⟩ := zlt_e h
      refine rn_iast hM45 (zw_12_30 hW k_a0) hc44 zd_X12_tellLaw_6.2.2.1 ?_
      cases h
      exact rn_vret zd_X12_tellLaw_6.2.2.2 rfl
    · refine rn_if_le_f (tgt := 156) hc41 zd_X12_tellLaw_5.1.1.1.1 rfl ?_
      cases h
      exact rn_vret zd_X12_tellLaw_5.1.1.1.2 rfl
def j_X12_tell_83 (R : zR) (M : zM) (L : zL) (a0 : Nat) : Option (zM × zL) :=
  if (M a0 13) = 0 then (
    zbd2 (f_X12_tellHouse R M L a0) fun M15 L16 =>
    some (M15, L16)
  ) else (
    some (M, L)
  )
set_option maxRecDepth 4000 in
theorem ok_j_X12_tell_83 {G : zG} {K : zK} {R : zR} {M : zM} {L : zL} (hW : zWT R K) {a0 : Nat} (k_a0 : K[a0]? = some (12, 61)) {M' : zM} {L' : zL} (h : j_X12_tell_83 R M L a0 = some (M', L')) : Rn G mt_X12_tell 83 [(0, .ref a0)] [] (M, L, R, K) none (M', L', R, K) := by
  unfold j_X12_tell_83 at h
  refine rn_aload_n (q := 0) 0 rfl zd_X12_tell_1.1.1.1.1 ?_
  refine rn_getI zf_X12_182 (Or.inl rfl) k_a0 zd_X12_tell_1.1.1.1.2 ?_
  rcases zif_e h with ⟨hc14, h⟩ | ⟨hc14, h⟩
  · refine rn_if_ne_f (tgt := 288) hc14 zd_X12_tell_1.1.1.2.1 rfl ?_
    refine rn_aload_n (q := 0) 0 rfl zd_X12_tell_1.1.1.2.2 ?_
    obtain ⟨M15, L16, h17, h⟩ := zbd2_e h
    refine rn_callVv (As := []) (rest := []) zl_X12_236 zm_X12_tellHouse ⟨by decide, by decide⟩ (ci := 12) rfl rfl (by decide) k_a0 rfl rfl (Nat.le_of_ble_eq_true rfl) zd_X12_tell_1.1.2.1.1 (ok_X12_tellHouse hW k_a0 h17) ?_
    refine rn_goto (tgt := 288) zd_X12_tell_1.1.2.1.2 rfl ?_
    cases h
    exact rn_vret zd_X12_tell_7.2.2.2.2 rfl
  · refine rn_if_ne_t (tgt := 288) hc14 zd_X12_tell_1.1.1.2.1 rfl ?_
    cases h
    exact rn_vret zd_X12_tell_7.2.2.2.2 rfl
def j_X12_tell_208 (R : zR) (M : zM) (L : zL) (a0 : Nat) (x1 : Int32) : Option (zM × zL) :=
  if (M a0 13) ≤ 0 then (
    zbd (f_X12_goesOn R M a0) fun M50 =>
    zck (zin (M50 a0 19) 2) <|
    zlt (zup M50 (R a0 26) (ztn (M50 a0 19)) x1) fun M53 =>
    zbd2 (f_X12_bounded R M53 a0 (1 : Int32) (30 : Int32)) fun r54 M55 =>
    zck (zin (M53 a0 19) 2) <|
    zlt (zup M55 (R a0 27) (ztn (M53 a0 19)) r54) fun M58 =>
    zbd (f_X12_must R M58 a0 (4 : Int32)) fun M59 =>
    some (M59, L)
  ) else (
    some (M, L)
  )
set_option maxRecDepth 4000 in
theorem ok_j_X12_tell_208 {G : zG} {K : zK} {R : zR} {M : zM} {L : zL} (hW : zWT R K) {a0 : Nat} {x1 : Int32} (k_a0 : K[a0]? = some (12, 61)) {M' : zM} {L' : zL} (h : j_X12_tell_208 R M L a0 x1 = some (M', L')) : Rn G mt_X12_tell 208 [(0, .ref a0), (1, .int x1)] [] (M, L, R, K) none (M', L', R, K) := by
  unfold j_X12_tell_208 at h
  refine rn_aload_n (q := 0) 0 rfl zd_X12_tell_5.1.1.2.2 ?_
  refine rn_getI zf_X12_182 (Or.inl rfl) k_a0 zd_X12_tell_5.1.2.1.1 ?_
  rcases zif_e h with ⟨hc49, h⟩ | ⟨hc49, h⟩
  · refine rn_if_le_t (tgt := 216) hc49 zd_X12_tell_5.1.2.1.2 rfl ?_
    refine rn_aload_n (q := 0) 0 rfl zd_X12_tell_5.1.2.2.2 ?_
    obtain ⟨M50, h51, h⟩ := zbd_e h
    refine rn_callVv (As := []) (rest := []) zl_X12_203 zm_X12_goesOn ⟨by decide, by decide⟩ (ci := 12) rfl rfl (by decide) k_a0 rfl rfl (Nat.le_of_ble_eq_true rfl) zd_X12_tell_5.2.1.1.1 (ok_X12_goesOn hW k_a0 h51) ?_
    refine rn_aload_n (q := 0) 0 rfl zd_X12_tell_5.2.1.1.2 ?_
    refine rn_getR zf_X12_56 (Or.inr ⟨_, rfl⟩) k_a0 (zx_12_26 hW k_a0) zd_X12_tell_5.2.1.2.1 ?_
    refine rn_aload_n (q := 0) 0 rfl zd_X12_tell_5.2.1.2.2 ?_
    refine rn_getI zf_X12_215 (Or.inl rfl) k_a0 zd_X12_tell_5.2.2.1.1 ?_
    refine rn_iload_n (q := 1) 1 rfl zd_X12_tell_5.2.2.1.2 ?_
    obtain ⟨hc52, h⟩ := zck_e h
    obtain ⟨M53, hM53, h⟩ := zlt_e h
    refine rn_iast hM53 (zw_12_26 hW k_a0) hc52 zd_X12_tell_5.2.2.2.1 ?_
    refine rn_aload_n (q := 0) 0 rfl zd_X12_tell_5.2.2.2.2 ?_
    refine rn_getR zf_X12_59 (Or.inr ⟨_, rfl⟩) k_a0 (zx_12_27 hW k_a0) zd_X12_tell_6.1.1.1.1 ?_
    refine rn_aload_n (q := 0) 0 rfl zd_X12_tell_6.1.1.1.2 ?_
    refine rn_getI zf_X12_215 (Or.inl rfl) k_a0 zd_X12_tell_6.1.1.2.1 ?_
    refine rn_aload_n (q := 0) 0 rfl zd_X12_tell_6.1.1.2.2 ?_
    refine rn_iconst (v := 1) zd_X12_tell_6.1.2.1.1 rfl ?_
    refine rn_bipush (v := 30) zd_X12_tell_6.1.2.1.2 rfl ?_
    obtain ⟨r54, M55, h56, h⟩ := zbd2_e h
    refine rn_callVi (As := [.int (1 : Int32), .int (30 : Int32)]) (rest := [.int (M53 a0 19), .ref (R a0 27)]) zl_X12_245 zm_X12_bounded ⟨by decide, by decide⟩ (ci := 12) rfl rfl (by decide) k_a0 rfl rfl (Nat.le_of_ble_eq_true rfl) zd_X12_tell_6.1.2.2.1 (ok_X12_bounded hW k_a0 h56) ?_
    obtain ⟨hc57, h⟩ := zck_e h
    obtain ⟨M58, hM58, h⟩ := zlt_e h
    refine rn_iast hM58 (zw_12_27 hW k_a0) hc57 zd_X12_tell_6.1.2.2.2 ?_
    refine rn_aload_n (q := 0) 0 rfl zd_X12_tell_6.2.1.1.1 ?_
    refine rn_iconst (v := 4) zd_X12_tell_6.2.1.1.2 rfl ?_
    obtain ⟨M59, h60, h⟩ := zbd_e h
    refine rn_callVv (As := [.int (4 : Int32)]) (rest := []) zl_X12_239 zm_X12_must ⟨by decide, by decide⟩ (ci := 12) rfl rfl (by decide) k_a0 rfl rfl (Nat.le_of_ble_eq_true rfl) zd_X12_tell_6.2.1.2.1 (ok_X12_must hW k_a0 h60) ?_
    refine rn_goto (tgt := 288) zd_X12_tell_6.2.1.2.2 rfl ?_
    cases h
    exact rn_vret zd_X12_tell_7.2.2.2.2 rfl
  · refine rn_if_le_f (tgt := 216) hc49 zd_X12_tell_5.1.2.1.2 rfl ?_
    cases h
    exact rn_vret zd_X12_tell_5.1.2.2.1 rfl
def j_X12_tell_203 (R : zR) (M : zM) (L : zL) (a0 : Nat) (x1 : Int32) : Option (zM × zL) :=
  zbd (f_X12_fail R M a0 (1 : Int32)) fun M47 =>
  j_X12_tell_208 R M47 L a0 x1
set_option maxRecDepth 4000 in
theorem ok_j_X12_tell_203 {G : zG} {K : zK} {R : zR} {M : zM} {L : zL} (hW : zWT R K) {a0 : Nat} {x1 : Int32} (k_a0 : K[a0]? = some (12, 61)) {M' : zM} {L' : zL} (h : j_X12_tell_203 R M L a0 x1 = some (M', L')) : Rn G mt_X12_tell 203 [(0, .ref a0), (1, .int x1)] [] (M, L, R, K) none (M', L', R, K) := by
  unfold j_X12_tell_203 at h
  refine rn_aload_n (q := 0) 0 rfl zd_X12_tell_5.1.1.1.1 ?_
  refine rn_iconst (v := 1) zd_X12_tell_5.1.1.1.2 rfl ?_
  obtain ⟨M47, h48, h⟩ := zbd_e h
  refine rn_callVv (As := [.int (1 : Int32)]) (rest := []) zl_X12_197 zm_X12_fail ⟨by decide, by decide⟩ (ci := 12) rfl rfl (by decide) k_a0 rfl rfl (Nat.le_of_ble_eq_true rfl) zd_X12_tell_5.1.1.2.1 (ok_X12_fail hW k_a0 h48) ?_
  exact rn_sub (ls' := [(0, .ref a0), (1, .int x1)]) [0, 1] rfl (ok_j_X12_tell_208 hW k_a0 h)
def j_X12_tell_193 (R : zR) (M : zM) (L : zL) (a0 : Nat) (s0 : Int32) : Option (zM × zL) :=
  if s0 < 0 then (
    j_X12_tell_203 R M L a0 s0
  ) else (
    if s0 ≤ (2 : Int32) then (
      j_X12_tell_208 R M L a0 s0
    ) else (
      j_X12_tell_203 R M L a0 s0
    )
  )
set_option maxRecDepth 4000 in
theorem ok_j_X12_tell_193 {G : zG} {K : zK} {R : zR} {M : zM} {L : zL} (hW : zWT R K) {a0 : Nat} {s0 : Int32} (k_a0 : K[a0]? = some (12, 61)) {M' : zM} {L' : zL} (h : j_X12_tell_193 R M L a0 s0 = some (M', L')) : Rn G mt_X12_tell 193 [(0, .ref a0)] [.int s0] (M, L, R, K) none (M', L', R, K) := by
  unfold j_X12_tell_193 at h
  refine rn_istore_n (q := 1) (ls' := [(1, .int s0), (0, .ref a0)]) (by decide) rfl zd_X12_tell_4.2.1.2.1 ?_
  refine rn_iload_n (q := 1) 0 rfl zd_X12_tell_4.2.1.2.2 ?_
  rcases zif_e h with ⟨hc46, h⟩ | ⟨hc46, h⟩
  · refine rn_if_lt_t (tgt := 203) hc46 zd_X12_tell_4.2.2.1.1 rfl ?_
    exact rn_sub (ls' := [(0, .ref a0), (1, .int s0)]) [1, 0] rfl (ok_j_X12_tell_203 hW k_a0 h)
  · refine rn_if_lt_f (tgt := 203) hc46 zd_X12_tell_4.2.2.1.1 rfl ?_
    refine rn_iload_n (q := 1) 0 rfl zd_X12_tell_4.2.2.1.2 ?_
    refine rn_iconst (v := 2) zd_X12_tell_4.2.2.2.1 rfl ?_
    rcases zif_e h with ⟨hc61, h⟩ | ⟨hc61, h⟩
    · refine rn_icmp_le_t (tgt := 208) hc61 zd_X12_tell_4.2.2.2.2 rfl ?_
      exact rn_sub (ls' := [(0, .ref a0), (1, .int s0)]) [1, 0] rfl (ok_j_X12_tell_208 hW k_a0 h)
    · refine rn_icmp_le_f (tgt := 208) hc61 zd_X12_tell_4.2.2.2.2 rfl ?_
      exact rn_sub (ls' := [(0, .ref a0), (1, .int s0)]) [1, 0] rfl (ok_j_X12_tell_203 hW k_a0 h)
def f_X12_tell (R : zR) (M : zM) (L : zL) (a0 : Nat) : Option (zM × zL) :=
  zck (zin (M a0 11) 403) <|
  if (M (R a0 5) (ztn (M a0 11))) = 20 then (
    zck (zin (M a0 19) 2) <|
    if (M (R a0 22) (ztn (M a0 19))) = (10 : Int32) then (
      zbd (f_X12_fail R M a0 (2 : Int32)) fun M18 =>
      j_X12_tell_83 R M18 L a0
    ) else (
      j_X12_tell_83 R M L a0
    )
  ) else (
    if (M (R a0 5) (ztn (M a0 11))) = 21 then (
      zbd (f_X12_goesOn R M a0) fun M20 =>
      zck (zin (M20 a0 19) 2) <|
      zlt (zup M20 (R a0 24) (ztn (M20 a0 19)) (1 : Int32)) fun M23 =>
      zbd (f_X12_must R M23 a0 (4 : Int32)) fun M24 =>
      some (M24, L)
    ) else (
      if (M (R a0 5) (ztn (M a0 11))) = 22 then (
        zbd (f_X12_goesOn R M a0) fun M26 =>
        zck (zin (M26 a0 19) 2) <|
        zlt (zup M26 (R a0 25) (ztn (M26 a0 19)) (1 : Int32)) fun M29 =>
        zbd (f_X12_must R M29 a0 (4 : Int32)) fun M30 =>
        some (M30, L)
      ) else (
        if (M (R a0 5) (ztn (M a0 11))) = 23 then (
          zck (zin (M a0 11) 403) <|
          zbd (f_X12_goesOn R M a0) fun M33 =>
          zbd (f_X12_tellLaw R M33 a0 ((M (R a0 5) (ztn (M a0 11))) - (23 : Int32))) fun M35 =>
          some (M35, L)
        ) else (
          if (M (R a0 5) (ztn (M a0 11))) = 24 then (
            zck (zin (M a0 11) 403) <|
            zbd (f_X12_goesOn R M a0) fun M38 =>
            zbd (f_X12_tellLaw R M38 a0 ((M (R a0 5) (ztn (M a0 11))) - (23 : Int32))) fun M40 =>
            some (M40, L)
          ) else (
            if (M (R a0 5) (ztn (M a0 11))) = 25 then (
              zbd (f_X12_goesOn R M a0) fun M42 =>
              if (M42 a0 13) ≤ 0 then (
                zck (zin (M42 a0 11) 403) <|
                j_X12_tell_193 R M42 L a0 ((M42 (R a0 5) (ztn (M42 a0 11))) - (26 : Int32))
              ) else (
                j_X12_tell_193 R M42 L a0 (-1 : Int32)
              )
            ) else (
              if (M (R a0 5) (ztn (M a0 11))) = 26 then (
                zbd (f_X12_fail R M a0 (1 : Int32)) fun M62 =>
                some (M62, L)
              ) else (
                if (M (R a0 5) (ztn (M a0 11))) = 27 then (
                  zbd (f_X12_fail R M a0 (1 : Int32)) fun M64 =>
                  some (M64, L)
                ) else (
                  if (M (R a0 5) (ztn (M a0 11))) = 28 then (
                    zbd (f_X12_fail R M a0 (1 : Int32)) fun M66 =>
                    some (M66, L)
                  ) else (
                    if (M (R a0 5) (ztn (M a0 11))) = 29 then (
                      zbd (f_X12_goesOn R M a0) fun M68 =>
                      zbd2 (f_X12_bounded R M68 a0 (0 : Int32) (9999 : Int32)) fun r70 M71 =>
                      zck (zin (M68 a0 19) 2) <|
                      zlt (zup M71 (R a0 28) (ztn (M68 a0 19)) r70) fun M74 =>
                      zbd (f_X12_must R M74 a0 (4 : Int32)) fun M75 =>
                      some (M75, L)
                    ) else (
                      zbd (f_X12_fail R M a0 (1 : Int32)) fun M77 =>
                      some (M77, L)
                    )
                  )
                )
              )
            )
          )
        )
      )
    )
  )
set_option maxRecDepth 4000 in
theorem ok_X12_tell {G : zG} {K : zK} {R : zR} {M : zM} {L : zL} (hW : zWT R K) {a0 : Nat} (k_a0 : K[a0]? = some (12, 61)) {M' : zM} {L' : zL} (h : f_X12_tell R M L a0 = some (M', L')) : Rm G mt_X12_tell [.ref a0] (M, L, R, K) none (M', L', R, K) := by
  refine rm_rn rfl rfl (Nat.le_of_ble_eq_true rfl) ?_
  show Rn G mt_X12_tell 0 [(0, .ref a0)] [] (M, L, R, K) none (M', L', R, K)
  unfold f_X12_tell at h
  refine rn_aload_n (q := 0) 0 rfl zd_X12_tell_0.1.1.1.1 ?_
  refine rn_getR zf_X12_20 (Or.inr ⟨_, rfl⟩) k_a0 (zx_12_5 hW k_a0) zd_X12_tell_0.1.1.1.2 ?_
  refine rn_aload_n (q := 0) 0 rfl zd_X12_tell_0.1.1.2.1 ?_
  refine rn_getI zf_X12_185 (Or.inl rfl) k_a0 zd_X12_tell_0.1.1.2.2 ?_
  obtain ⟨hc1, h⟩ := zck_e h
  refine rn_iald (zw_12_5 hW k_a0) hc1 zd_X12_tell_0.1.2.1.1 ?_
  rcases zif_e h with ⟨hc2, h⟩ | ⟨hc2, h⟩
  · refine rn_tblIn (v := 20) (tgt := 64) zd_X12_tell_0.1.2.1.2 (by rw [hc2]; rfl) (by decide) (by decide) rfl rfl ?_
    refine rn_aload_n (q := 0) 0 rfl zd_X12_tell_0.1.2.2.1 ?_
    refine rn_getR zf_X12_43 (Or.inr ⟨_, rfl⟩) k_a0 (zx_12_22 hW k_a0) zd_X12_tell_0.1.2.2.2 ?_
    refine rn_aload_n (q := 0) 0 rfl zd_X12_tell_0.2.1.1.1 ?_
    refine rn_getI zf_X12_215 (Or.inl rfl) k_a0 zd_X12_tell_0.2.1.1.2 ?_
    obtain ⟨hc12, h⟩ := zck_e h
    refine rn_iald (zw_12_22 hW k_a0) hc12 zd_X12_tell_0.2.1.2.1 ?_
    refine rn_bipush (v := 10) zd_X12_tell_0.2.1.2.2 rfl ?_
    rcases zif_e h with ⟨hc13, h⟩ | ⟨hc13, h⟩
    · refine rn_icmp_ne_f (tgt := 83) hc13 zd_X12_tell_0.2.2.1.1 rfl ?_
      refine rn_aload_n (q := 0) 0 rfl zd_X12_tell_0.2.2.1.2 ?_
      refine rn_iconst (v := 2) zd_X12_tell_0.2.2.2.1 rfl ?_
      obtain ⟨M18, h19, h⟩ := zbd_e h
      refine rn_callVv (As := [.int (2 : Int32)]) (rest := []) zl_X12_197 zm_X12_fail ⟨by decide, by decide⟩ (ci := 12) rfl rfl (by decide) k_a0 rfl rfl (Nat.le_of_ble_eq_true rfl) zd_X12_tell_0.2.2.2.2 (ok_X12_fail hW k_a0 h19) ?_
      exact rn_sub (ls' := [(0, .ref a0)]) [0] rfl (ok_j_X12_tell_83 hW k_a0 h)
    · refine rn_icmp_ne_t (tgt := 83) hc13 zd_X12_tell_0.2.2.1.1 rfl ?_
      exact rn_sub (ls' := [(0, .ref a0)]) [0] rfl (ok_j_X12_tell_83 hW k_a0 h)
  · rcases zif_e h with ⟨hc3, h⟩ | ⟨hc3, h⟩
    · refine rn_tblIn (v := 21) (tgt := 97) zd_X12_tell_0.1.2.1.2 (by rw [hc3]; rfl) (by decide) (by decide) rfl rfl ?_
      refine rn_aload_n (q := 0) 0 rfl zd_X12_tell_1.1.2.2.1 ?_
      obtain ⟨M20, h21, h⟩ := zbd_e h
      refine rn_callVv (As := []) (rest := []) zl_X12_203 zm_X12_goesOn ⟨by decide, by decide⟩ (ci := 12) rfl rfl (by decide) k_a0 rfl rfl (Nat.le_of_ble_eq_true rfl) zd_X12_tell_1.1.2.2.2 (ok_X12_goesOn hW k_a0 h21) ?_
      refine rn_aload_n (q := 0) 0 rfl zd_X12_tell_1.2.1.1.1 ?_
      refine rn_getR zf_X12_49 (Or.inr ⟨_, rfl⟩) k_a0 (zx_12_24 hW k_a0) zd_X12_tell_1.2.1.1.2 ?_
      refine rn_aload_n (q := 0) 0 rfl zd_X12_tell_1.2.1.2.1 ?_
      refine rn_getI zf_X12_215 (Or.inl rfl) k_a0 zd_X12_tell_1.2.1.2.2 ?_
      refine rn_iconst (v := 1) zd_X12_tell_1.2.2.1.1 rfl ?_
      obtain ⟨hc22, h⟩ := zck_e h
      obtain ⟨M23, hM23, h⟩ := zlt_e h
      refine rn_zast rfl hM23 (zw_12_24 hW k_a0) hc22 zd_X12_tell_1.2.2.1.2 ?_
      refine rn_aload_n (q := 0) 0 rfl zd_X12_tell_1.2.2.2.1 ?_
      refine rn_iconst (v := 4) zd_X12_tell_1.2.2.2.2 rfl ?_
      obtain ⟨M24, h25, h⟩ := zbd_e h
      refine rn_callVv (As := [.int (4 : Int32)]) (rest := []) zl_X12_239 zm_X12_must ⟨by decide, by decide⟩ (ci := 12) rfl rfl (by decide) k_a0 rfl rfl (Nat.le_of_ble_eq_true rfl) zd_X12_tell_2.1.1.1.1 (ok_X12_must hW k_a0 h25) ?_
      refine rn_goto (tgt := 288) zd_X12_tell_2.1.1.1.2 rfl ?_
      cases h
      exact rn_vret zd_X12_tell_7.2.2.2.2 rfl
    · rcases zif_e h with ⟨hc4, h⟩ | ⟨hc4, h⟩
      · refine rn_tblIn (v := 22) (tgt := 119) zd_X12_tell_0.1.2.1.2 (by rw [hc4]; rfl) (by decide) (by decide) rfl rfl ?_
        refine rn_aload_n (q := 0) 0 rfl zd_X12_tell_2.1.1.2.1 ?_
        obtain ⟨M26, h27, h⟩ := zbd_e h
        refine rn_callVv (As := []) (rest := []) zl_X12_203 zm_X12_goesOn ⟨by decide, by decide⟩ (ci := 12) rfl rfl (by decide) k_a0 rfl rfl (Nat.le_of_ble_eq_true rfl) zd_X12_tell_2.1.1.2.2 (ok_X12_goesOn hW k_a0 h27) ?_
        refine rn_aload_n (q := 0) 0 rfl zd_X12_tell_2.1.2.1.1 ?_
        refine rn_getR zf_X12_53 (Or.inr ⟨_, rfl⟩) k_a0 (zx_12_25 hW k_a0) zd_X12_tell_2.1.2.1.2 ?_
        refine rn_aload_n (q := 0) 0 rfl zd_X12_tell_2.1.2.2.1 ?_
        refine rn_getI zf_X12_215 (Or.inl rfl) k_a0 zd_X12_tell_2.1.2.2.2 ?_
        refine rn_iconst (v := 1) zd_X12_tell_2.2.1.1.1 rfl ?_
        obtain ⟨hc28, h⟩ := zck_e h
        obtain ⟨M29, hM29, h⟩ := zlt_e h
        refine rn_zast rfl hM29 (zw_12_25 hW k_a0) hc28 zd_X12_tell_2.2.1.1.2 ?_
        refine rn_aload_n (q := 0) 0 rfl zd_X12_tell_2.2.1.2.1 ?_
        refine rn_iconst (v := 4) zd_X12_tell_2.2.1.2.2 rfl ?_
        obtain ⟨M30, h31, h⟩ := zbd_e h
        refine rn_callVv (As := [.int (4 : Int32)]) (rest := []) zl_X12_239 zm_X12_must ⟨by decide, by decide⟩ (ci := 12) rfl rfl (by decide) k_a0 rfl rfl (Nat.le_of_ble_eq_true rfl) zd_X12_tell_2.2.2.1.1 (ok_X12_must hW k_a0 h31) ?_
        refine rn_goto (tgt := 288) zd_X12_tell_2.2.2.1.2 rfl ?_
        cases h
        exact rn_vret zd_X12_tell_7.2.2.2.2 rfl
      · rcases zif_e h with ⟨hc5, h⟩ | ⟨hc5, h⟩
        · refine rn_tblIn (v := 23) (tgt := 141) zd_X12_tell_0.1.2.1.2 (by rw [hc5]; rfl) (by decide) (by decide) rfl rfl ?_
          refine rn_aload_n (q := 0) 0 rfl zd_X12_tell_2.2.2.2.1 ?_
          refine rn_getR zf_X12_20 (Or.inr ⟨_, rfl⟩) k_a0 (zx_12_5 hW k_a0) zd_X12_tell_2.2.2.2.2 ?_
          refine rn_aload_n (q := 0) 0 rfl zd_X12_tell_3.1.1.1.1 ?_
          refine rn_getI zf_X12_185 (Or.inl rfl) k_a0 zd_X12_tell_3.1.1.1.2 ?_
          obtain ⟨hc32, h⟩ := zck_e h
          refine rn_iald (zw_12_5 hW k_a0) hc32 zd_X12_tell_3.1.1.2.1 ?_
          refine rn_bipush (v := 23) zd_X12_tell_3.1.1.2.2 rfl ?_
          refine rn_isub zd_X12_tell_3.1.2.1.1 ?_
          refine rn_istore_n (q := 1) (ls' := [(1, .int ((M (R a0 5) (ztn (M a0 11))) - (23 : Int32))), (0, .ref a0)]) (by decide) rfl zd_X12_tell_3.1.2.1.2 ?_
          refine rn_aload_n (q := 0) 1 rfl zd_X12_tell_3.1.2.2.1 ?_
          obtain ⟨M33, h34, h⟩ := zbd_e h
          refine rn_callVv (As := []) (rest := []) zl_X12_203 zm_X12_goesOn ⟨by decide, by decide⟩ (ci := 12) rfl rfl (by decide) k_a0 rfl rfl (Nat.le_of_ble_eq_true rfl) zd_X12_tell_3.1.2.2.2 (ok_X12_goesOn hW k_a0 h34) ?_
          refine rn_aload_n (q := 0) 1 rfl zd_X12_tell_3.2.1.1.1 ?_
          refine rn_iload_n (q := 1) 0 rfl zd_X12_tell_3.2.1.1.2 ?_
          obtain ⟨M35, h36, h⟩ := zbd_e h
          refine rn_callVv (As := [.int ((M (R a0 5) (ztn (M a0 11))) - (23 : Int32))]) (rest := []) zl_X12_242 zm_X12_tellLaw ⟨by decide, by decide⟩ (ci := 12) rfl rfl (by decide) k_a0 rfl rfl (Nat.le_of_ble_eq_true rfl) zd_X12_tell_3.2.1.2.1 (ok_X12_tellLaw hW k_a0 h36) ?_
          refine rn_goto (tgt := 288) zd_X12_tell_3.2.1.2.2 rfl ?_
          cases h
          exact rn_vret zd_X12_tell_7.2.2.2.2 rfl
        · rcases zif_e h with ⟨hc6, h⟩ | ⟨hc6, h⟩
          · refine rn_tblIn (v := 24) (tgt := 141) zd_X12_tell_0.1.2.1.2 (by rw [hc6]; rfl) (by decide) (by decide) rfl rfl ?_
            refine rn_aload_n (q := 0) 0 rfl zd_X12_tell_2.2.2.2.1 ?_
            refine rn_getR zf_X12_20 (Or.inr ⟨_, rfl⟩) k_a0 (zx_12_5 hW k_a0) zd_X12_tell_2.2.2.2.2 ?_
            refine rn_aload_n (q := 0) 0 rfl zd_X12_tell_3.1.1.1.1 ?_
            refine rn_getI zf_X12_185 (Or.inl rfl) k_a0 zd_X12_tell_3.1.1.1.2 ?_
            obtain ⟨hc37, h⟩ := zck_e h
            refine rn_iald (zw_12_5 hW k_a0) hc37 zd_X12_tell_3.1.1.2.1 ?_
            refine rn_bipush (v := 23) zd_X12_tell_3.1.1.2.2 rfl ?_
            refine rn_isub zd_X12_tell_3.1.2.1.1 ?_
            refine rn_istore_n (q := 1) (ls' := [(1, .int ((M (R a0 5) (ztn (M a0 11))) - (23 : Int32))), (0, .ref a0)]) (by decide) rfl zd_X12_tell_3.1.2.1.2 ?_
            refine rn_aload_n (q := 0) 1 rfl zd_X12_tell_3.1.2.2.1 ?_
            obtain ⟨M38, h39, h⟩ := zbd_e h
            refine rn_callVv (As := []) (rest := []) zl_X12_203 zm_X12_goesOn ⟨by decide, by decide⟩ (ci := 12) rfl rfl (by decide) k_a0 rfl rfl (Nat.le_of_ble_eq_true rfl) zd_X12_tell_3.1.2.2.2 (ok_X12_goesOn hW k_a0 h39) ?_
            refine rn_aload_n (q := 0) 1 rfl zd_X12_tell_3.2.1.1.1 ?_
            refine rn_iload_n (q := 1) 0 rfl zd_X12_tell_3.2.1.1.2 ?_
            obtain ⟨M40, h41, h⟩ := zbd_e h
            refine rn_callVv (As := [.int ((M (R a0 5) (ztn (M a0 11))) - (23 : Int32))]) (rest := []) zl_X12_242 zm_X12_tellLaw ⟨by decide, by decide⟩ (ci := 12) rfl rfl (by decide) k_a0 rfl rfl (Nat.le_of_ble_eq_true rfl) zd_X12_tell_3.2.1.2.1 (ok_X12_tellLaw hW k_a0 h41) ?_
            refine rn_goto (tgt := 288) zd_X12_tell_3.2.1.2.2 rfl ?_
            cases h
            exact rn_vret zd_X12_tell_7.2.2.2.2 rfl
          · rcases zif_e h with ⟨hc7, h⟩ | ⟨hc7, h⟩
            · refine rn_tblIn (v := 25) (tgt := 166) zd_X12_tell_0.1.2.1.2 (by rw [hc7]; rfl) (by decide) (by decide) rfl rfl ?_
              refine rn_aload_n (q := 0) 0 rfl zd_X12_tell_3.2.2.1.1 ?_
              obtain ⟨M42, h43, h⟩ := zbd_e h
              refine rn_callVv (As := []) (rest := []) zl_X12_203 zm_X12_goesOn ⟨by decide, by decide⟩ (ci := 12) rfl rfl (by decide) k_a0 rfl rfl (Nat.le_of_ble_eq_true rfl) zd_X12_tell_3.2.2.1.2 (ok_X12_goesOn hW k_a0 h43) ?_
              refine rn_aload_n (q := 0) 0 rfl zd_X12_tell_3.2.2.2.1 ?_
              refine rn_getI zf_X12_182 (Or.inl rfl) k_a0 zd_X12_tell_3.2.2.2.2 ?_
              rcases zif_e h with ⟨hc44, h⟩ | ⟨hc44, h⟩
              · refine rn_if_le_t (tgt := 181) hc44 zd_X12_tell_4.1.1.1.1 rfl ?_
                refine rn_aload_n (q := 0) 0 rfl zd_X12_tell_4.1.1.2.2 ?_
                refine rn_getR zf_X12_20 (Or.inr ⟨_, rfl⟩) k_a0 (zx_12_5 hW k_a0) zd_X12_tell_4.1.2.1.1 ?_
                refine rn_aload_n (q := 0) 0 rfl zd_X12_tell_4.1.2.1.2 ?_
                refine rn_getI zf_X12_185 (Or.inl rfl) k_a0 zd_X12_tell_4.1.2.2.1 ?_
                obtain ⟨hc45, h⟩ := zck_e h
                refine rn_iald (zw_12_5 hW k_a0) hc45 zd_X12_tell_4.1.2.2.2 ?_
                refine rn_bipush (v := 26) zd_X12_tell_4.2.1.1.1 rfl ?_
                refine rn_isub zd_X12_tell_4.2.1.1.2 ?_
                exact rn_sub (ls' := [(0, .ref a0)]) [0] rfl (ok_j_X12_tell_193 hW k_a0 h)
              · refine rn_if_le_f (tgt := 181) hc44 zd_X12_tell_4.1.1.1.1 rfl ?_
                refine rn_iconst (v := -1) zd_X12_tell_4.1.1.1.2 rfl ?_
                refine rn_goto (tgt := 193) zd_X12_tell_4.1.1.2.1 rfl ?_
                exact rn_sub (ls' := [(0, .ref a0)]) [0] rfl (ok_j_X12_tell_193 hW k_a0 h)
            · rcases zif_e h with ⟨hc8, h⟩ | ⟨hc8, h⟩
              · refine rn_tblIn (v := 26) (tgt := 283) zd_X12_tell_0.1.2.1.2 (by rw [hc8]; rfl) (by decide) (by decide) rfl rfl ?_
                refine rn_aload_n (q := 0) 0 rfl zd_X12_tell_7.2.2.1.1 ?_
                refine rn_iconst (v := 1) zd_X12_tell_7.2.2.1.2 rfl ?_
                obtain ⟨M62, h63, h⟩ := zbd_e h
                refine rn_callVv (As := [.int (1 : Int32)]) (rest := []) zl_X12_197 zm_X12_fail ⟨by decide, by decide⟩ (ci := 12) rfl rfl (by decide) k_a0 rfl rfl (Nat.le_of_ble_eq_true rfl) zd_X12_tell_7.2.2.2.1 (ok_X12_fail hW k_a0 h63) ?_
                cases h
                exact rn_vret zd_X12_tell_7.2.2.2.2 rfl
              · rcases zif_e h with ⟨hc9, h⟩ | ⟨hc9, h⟩
                · refine rn_tblIn (v := 27) (tgt := 283) zd_X12_tell_0.1.2.1.2 (by rw [hc9]; rfl) (by decide) (by decide) rfl rfl ?_
                  refine rn_aload_n (q := 0) 0 rfl zd_X12_tell_7.2.2.1.1 ?_
                  refine rn_iconst (v := 1) zd_X12_tell_7.2.2.1.2 rfl ?_
                  obtain ⟨M64, h65, h⟩ := zbd_e h
                  refine rn_callVv (As := [.int (1 : Int32)]) (rest := []) zl_X12_197 zm_X12_fail ⟨by decide, by decide⟩ (ci := 12) rfl rfl (by decide) k_a0 rfl rfl (Nat.le_of_ble_eq_true rfl) zd_X12_tell_7.2.2.2.1 (ok_X12_fail hW k_a0 h65) ?_
                  cases h
                  exact rn_vret zd_X12_tell_7.2.2.2.2 rfl
                · rcases zif_e h with ⟨hc10, h⟩ | ⟨hc10, h⟩
                  · refine rn_tblIn (v := 28) (tgt := 283) zd_X12_tell_0.1.2.1.2 (by rw [hc10]; rfl) (by decide) (by decide) rfl rfl ?_
                    refine rn_aload_n (q := 0) 0 rfl zd_X12_tell_7.2.2.1.1 ?_
                    refine rn_iconst (v := 1) zd_X12_tell_7.2.2.1.2 rfl ?_
                    obtain ⟨M66, h67, h⟩ := zbd_e h
                    refine rn_callVv (As := [.int (1 : Int32)]) (rest := []) zl_X12_197 zm_X12_fail ⟨by decide, by decide⟩ (ci := 12) rfl rfl (by decide) k_a0 rfl rfl (Nat.le_of_ble_eq_true rfl) zd_X12_tell_7.2.2.2.1 (ok_X12_fail hW k_a0 h67) ?_
                    cases h
                    exact rn_vret zd_X12_tell_7.2.2.2.2 rfl
                  · rcases zif_e h with ⟨hc11, h⟩ | ⟨hc11, h⟩
                    · refine rn_tblIn (v := 29) (tgt := 254) zd_X12_tell_0.1.2.1.2 (by rw [hc11]; rfl) (by decide) (by decide) rfl rfl ?_
                      refine rn_aload_n (q := 0) 0 rfl zd_X12_tell_6.2.2.1.1 ?_
                      obtain ⟨M68, h69, h⟩ := zbd_e h
                      refine rn_callVv (As := []) (rest := []) zl_X12_203 zm_X12_goesOn ⟨by decide, by decide⟩ (ci := 12) rfl rfl (by decide) k_a0 rfl rfl (Nat.le_of_ble_eq_true rfl) zd_X12_tell_6.2.2.1.2 (ok_X12_goesOn hW k_a0 h69) ?_
                      refine rn_aload_n (q := 0) 0 rfl zd_X12_tell_6.2.2.2.1 ?_
                      refine rn_getR zf_X12_62 (Or.inr ⟨_, rfl⟩) k_a0 (zx_12_28 hW k_a0) zd_X12_tell_6.2.2.2.2 ?_
                      refine rn_aload_n (q := 0) 0 rfl zd_X12_tell_7.1.1.1 ?_
                      refine rn_getI zf_X12_215 (Or.inl rfl) k_a0 zd_X12_tell_7.1.1.2.1 ?_
                      refine rn_aload_n (q := 0) 0 rfl zd_X12_tell_7.1.1.2.2 ?_
                      refine rn_iconst (v := 0) zd_X12_tell_7.1.2.1.1 rfl ?_
                      refine rn_sipush (v := 9999) zd_X12_tell_7.1.2.1.2 rfl ?_
                      obtain ⟨r70, M71, h72, h⟩ := zbd2_e h
                      refine rn_callVi (As := [.int (0 : Int32), .int (9999 : Int32)]) (rest := [.int (M68 a0 19), .ref (R a0 28)]) zl_X12_245 zm_X12_bounded ⟨by decide, by decide⟩ (ci := 12) rfl rfl (by decide) k_a0 rfl rfl (Nat.le_of_ble_eq_true rfl) zd_X12_tell_7.1.2.2.1 (ok_X12_bounded hW k_a0 h72) ?_
                      obtain ⟨hc73, h⟩ := zck_e h
                      obtain ⟨M74, hM74, h⟩ := zlt_e h
                      refine rn_iast hM74 (zw_12_28 hW k_a0) hc73 zd_X12_tell_7.1.2.2.2 ?_
                      refine rn_aload_n (q := 0) 0 rfl zd_X12_tell_7.2.1.1.1 ?_
                      refine rn_iconst (v := 4) zd_X12_tell_7.2.1.1.2 rfl ?_
                      obtain ⟨M75, h76, h⟩ := zbd_e h
                      refine rn_callVv (As := [.int (4 : Int32)]) (rest := []) zl_X12_239 zm_X12_must ⟨by decide, by decide⟩ (ci := 12) rfl rfl (by decide) k_a0 rfl rfl (Nat.le_of_ble_eq_true rfl) zd_X12_tell_7.2.1.2.1 (ok_X12_must hW k_a0 h76) ?_
                      refine rn_goto (tgt := 288) zd_X12_tell_7.2.1.2.2 rfl ?_
                      cases h
                      exact rn_vret zd_X12_tell_7.2.2.2.2 rfl
                    · have ht : (M (R a0 5) (ztn (M a0 11))).toInt < 20 ∨ 29 < (M (R a0 5) (ztn (M a0 11))).toInt := by
                        have q0 := zto (n := 20) hc2 rfl
                        have q1 := zto (n := 21) hc3 rfl
                        have q2 := zto (n := 22) hc4 rfl
                        have q3 := zto (n := 23) hc5 rfl
                        have q4 := zto (n := 24) hc6 rfl
                        have q5 := zto (n := 25) hc7 rfl
                        have q6 := zto (n := 26) hc8 rfl
                        have q7 := zto (n := 27) hc9 rfl
                        have q8 := zto (n := 28) hc10 rfl
                        have q9 := zto (n := 29) hc11 rfl
                        omega
                      refine rn_tblOut (tgt := 283) zd_X12_tell_0.1.2.1.2 ht rfl ?_
                      refine rn_aload_n (q := 0) 0 rfl zd_X12_tell_7.2.2.1.1 ?_
                      refine rn_iconst (v := 1) zd_X12_tell_7.2.2.1.2 rfl ?_
                      obtain ⟨M77, h78, h⟩ := zbd_e h
                      refine rn_callVv (As := [.int (1 : Int32)]) (rest := []) zl_X12_197 zm_X12_fail ⟨by decide, by decide⟩ (ci := 12) rfl rfl (by decide) k_a0 rfl rfl (Nat.le_of_ble_eq_true rfl) zd_X12_tell_7.2.2.2.1 (ok_X12_fail hW k_a0 h78) ?_
                      cases h
                      exact rn_vret zd_X12_tell_7.2.2.2.2 rfl
abbrev P_X12_read_10 (G : zG) (K : zK) (R : zR) (L : zL) (a0 : Nat) (r : Option Value) (S' : zS) (v : Int32 × zM) : Prop := Rn G mt_X12_read 10 [(0, .ref a0), (1, .int v.1)] [] (v.2, L, R, K) r S'
abbrev Q_X12_read_10 (G : zG) (K : zK) (R : zR) (L : zL) (a0 : Nat) (r : Option Value) (S' : zS) : (zM) → Prop := (fun e => Rn G mt_X12_read 36 [(0, .ref a0)] [] (e, L, R, K) r S')
def b_X12_read_10 (R : zR) (M : zM) (L : zL) (a0 : Nat) (x1 : Int32) : Option ((Int32 × zM) ⊕ ((zM))) :=
  if (M a0 4) ≤ x1 then (
    some (.inr M)
  ) else (
    zck (zin x1 2000) <|
    zck (zin x1 2000) <|
    zlt (zup M (R a0 3) (ztn x1) (M (R a0 1) (ztn x1)).toInt8.toInt32) fun M5 =>
    some (.inl ((x1 + 1), M5))
  )
set_option maxRecDepth 4000 in
theorem ok_b_X12_read_10 {G : zG} {K : zK} {R : zR} {M : zM} {L : zL} (hW : zWT R K) {a0 : Nat} {x1 : Int32} (k_a0 : K[a0]? = some (12, 61)) {r : Option Value} {S' : zS} {x : (Int32 × zM) ⊕ ((zM))} (h : b_X12_read_10 R M L a0 x1 = some x) (hk : Sum.elim (P_X12_read_10 G K R L a0 r S') (Q_X12_read_10 G K R L a0 r S') x) : P_X12_read_10 G K R L a0 r S' (x1, M) := by
  show Rn G mt_X12_read 10 [(0, .ref a0), (1, .int x1)] [] (M, L, R, K) r S'
  unfold b_X12_read_10 at h
  refine rn_iload_n (q := 1) 1 rfl zd_X12_read_0.1.2.2.1 ?_
  refine rn_aload_n (q := 0) 0 rfl zd_X12_read_0.1.2.2.2 ?_
  refine rn_getI zf_X12_151 (Or.inl rfl) k_a0 zd_X12_read_0.2.1.1.1 ?_
  rcases zif_e h with ⟨hc2, h⟩ | ⟨hc2, h⟩
  · refine rn_icmp_ge_t (tgt := 36) hc2 zd_X12_read_0.2.1.1.2 rfl ?_
    cases h
    exact rn_sub (ls' := [(0, .ref a0)]) [0] rfl hk
  · refine rn_icmp_ge_f (tgt := 36) hc2 zd_X12_read_0.2.1.1.2 rfl ?_
    refine rn_aload_n (q := 0) 0 rfl zd_X12_read_0.2.1.2.1 ?_
    refine rn_getR zf_X12_17 (Or.inr ⟨_, rfl⟩) k_a0 (zx_12_3 hW k_a0) zd_X12_read_0.2.1.2.2 ?_
    refine rn_iload_n (q := 1) 1 rfl zd_X12_read_0.2.2.1.1 ?_
    refine rn_aload_n (q := 0) 0 rfl zd_X12_read_0.2.2.1.2 ?_
    refine rn_getR zf_X12_13 (Or.inr ⟨_, rfl⟩) k_a0 (zx_12_1 hW k_a0) zd_X12_read_0.2.2.2.1 ?_
    refine rn_iload_n (q := 1) 1 rfl zd_X12_read_0.2.2.2.2 ?_
    obtain ⟨hc3, h⟩ := zck_e h
    refine rn_bald (zw_12_1 hW k_a0) hc3 zd_X12_read_1.1.1.1.1 ?_
    obtain ⟨hc4, h⟩ := zck_e h
    obtain ⟨M5, hM5, h⟩ := zlt_e h
    refine rn_bast rfl hM5 (zw_12_3 hW k_a0) hc4 zd_X12_read_1.1.1.1.2 ?_
    refine rn_iinc (v := (x1 + 1)) (ls' := [(1, .int (x1 + 1)), (0, .ref a0)]) 1 rfl rfl (by decide) rfl zd_X12_read_1.1.1.2.1 ?_
    refine rn_goto (tgt := 10) zd_X12_read_1.1.1.2.2 rfl ?_
    cases h
    exact rn_sub (ls' := [(0, .ref a0), (1, .int (x1 + 1))]) [1, 0] rfl hk
abbrev P_X12_read_167 (G : zG) (K : zK) (R : zR) (L : zL) (a0 : Nat) (r : Option Value) (S' : zS) (v : Int32 × zM) : Prop := Rn G mt_X12_read 167 [(0, .ref a0), (1, .int v.1)] [] (v.2, L, R, K) r S'
abbrev Q_X12_read_167 (G : zG) (K : zK) (R : zR) (L : zL) (a0 : Nat) (r : Option Value) (S' : zS) : (zM) → Prop := (fun e => Rn G mt_X12_read 206 [(0, .ref a0)] [] (e, L, R, K) r S')
def b_X12_read_167 (R : zR) (M : zM) (L : zL) (a0 : Nat) (x1 : Int32) : Option ((Int32 × zM) ⊕ ((zM))) :=
  if (2 : Int32) ≤ x1 then (
    some (.inr M)
  ) else (
    zck (zin (((2 : Int32) * (M a0 19)) + x1) 4) <|
    zlt (zup M (R a0 29) (ztn (((2 : Int32) * (M a0 19)) + x1)) (0 : Int32)) fun M33 =>
    zck (zin (((2 : Int32) * (M33 a0 19)) + x1) 4) <|
    zlt (zup M33 (R a0 30) (ztn (((2 : Int32) * (M33 a0 19)) + x1)) (0 : Int32)) fun M35 =>
    some (.inl ((x1 + 1), M35))
  )
set_option maxRecDepth 4000 in
theorem ok_b_X12_read_167 {G : zG} {K : zK} {R : zR} {M : zM} {L : zL} (hW : zWT R K) {a0 : Nat} {x1 : Int32} (k_a0 : K[a0]? = some (12, 61)) {r : Option Value} {S' : zS} {x : (Int32 × zM) ⊕ ((zM))} (h : b_X12_read_167 R M L a0 x1 = some x) (hk : Sum.elim (P_X12_read_167 G K R L a0 r S') (Q_X12_read_167 G K R L a0 r S') x) : P_X12_read_167 G K R L a0 r S' (x1, M) := by
  show Rn G mt_X12_read 167 [(0, .ref a0), (1, .int x1)] [] (M, L, R, K) r S'
  unfold b_X12_read_167 at h
  refine rn_iload_n (q := 1) 1 rfl zd_X12_read_6.1.1.1.1 ?_
  refine rn_iconst (v := 2) zd_X12_read_6.1.1.1.2 rfl ?_
  rcases zif_e h with ⟨hc31, h⟩ | ⟨hc31, h⟩
  · refine rn_icmp_ge_t (tgt := 206) hc31 zd_X12_read_6.1.1.2.1 rfl ?_
    cases h
    exact rn_sub (ls' := [(0, .ref a0)]) [0] rfl hk
  · refine rn_icmp_ge_f (tgt := 206) hc31 zd_X12_read_6.1.1.2.1 rfl ?_
    refine rn_aload_n (q := 0) 0 rfl zd_X12_read_6.1.1.2.2 ?_
    refine rn_getR zf_X12_65 (Or.inr ⟨_, rfl⟩) k_a0 (zx_12_29 hW k_a0) zd_X12_read_6.1.2.1.1 ?_
    refine rn_iconst (v := 2) zd_X12_read_6.1.2.1.2 rfl ?_
    refine rn_aload_n (q := 0) 0 rfl zd_X12_read_6.1.2.2.1 ?_
    refine rn_getI zf_X12_215 (Or.inl rfl) k_a0 zd_X12_read_6.1.2.2.2 ?_
    refine rn_imul zd_X12_read_6.2.1.1.1 ?_
    refine rn_iload_n (q := 1) 1 rfl zd_X12_read_6.2.1.1.2 ?_
    refine rn_iadd zd_X12_read_6.2.1.2.1 ?_
    refine rn_iconst (v := 0) zd_X12_read_6.2.1.2.2 rfl ?_
    obtain ⟨hc32, h⟩ := zck_e h
    obtain ⟨M33, hM33, h⟩ := zlt_e h
    refine rn_iast hM33 (zw_12_29 hW k_a0) hc32 zd_X12_read_6.2.2.1.1 ?_
    refine rn_aload_n (q := 0) 0 rfl zd_X12_read_6.2.2.1.2 ?_
    refine rn_getR zf_X12_68 (Or.inr ⟨_, rfl⟩) k_a0 (zx_12_30 hW k_a0) zd_X12_read_6.2.2.2.1 ?_
    refine rn_iconst (v := 2) zd_X12_read_6.2.2.2.2 rfl ?_
    refine rn_aload_n (q := 0) 0 rfl zd_X12_read_7.1.1.1.1 ?_
    refine rn_getI zf_X12_215 (Or.inl rfl) k_a0 zd_X12_read_7.1.1.1.2 ?_
    refine rn_imul zd_X12_read_7.1.1.2.1 ?_
    refine rn_iload_n (q := 1) 1 rfl zd_X12_read_7.1.1.2.2 ?_
    refine rn_iadd zd_X12_read_7.1.2.1.1 ?_
    refine rn_iconst (v := 0) zd_X12_read_7.1.2.1.2 rfl ?_
    obtain ⟨hc34, h⟩ := zck_e h
    obtain ⟨M35, hM35, h⟩ := zlt_e h
    refine rn_iast hM35 (zw_12_30 hW k_a0) hc34 zd_X12_read_7.1.2.2.1 ?_
    refine rn_iinc (v := (x1 + 1)) (ls' := [(1, .int (x1 + 1)), (0, .ref a0)]) 1 rfl rfl (by decide) rfl zd_X12_read_7.1.2.2.2 ?_
    refine rn_goto (tgt := 167) zd_X12_read_7.2.1.1.1 rfl ?_
    cases h
    exact rn_sub (ls' := [(0, .ref a0), (1, .int (x1 + 1))]) [1, 0] rfl hk
abbrev P_X12_read_206 (G : zG) (K : zK) (R : zR) (a0 : Nat) (r : Option Value) (S' : zS) (v : zM × zL) : Prop := Rn G mt_X12_read 206 [(0, .ref a0)] [] (v.1, v.2, R, K) r S'
abbrev Q_X12_read_206 (G : zG) (K : zK) (R : zR) (a0 : Nat) (r : Option Value) (S' : zS) : (zM × zL) → Prop := (fun e => Rn G mt_X12_read 228 [(0, .ref a0)] [] (e.1, e.2, R, K) r S')
def b_X12_read_206 (R : zR) (M : zM) (L : zL) (a0 : Nat) : Option ((zM × zL) ⊕ ((zM × zL))) :=
  if (M a0 13) = 0 then (
    zbd (f_X12_is R M a0 (0 : Int32)) fun r38 =>
    if r38 = 0 then (
      zbd2 (f_X12_tell R M L a0) fun M41 L42 =>
      some (.inl (M41, L42))
    ) else (
      some (.inr (M, L))
    )
  ) else (
    some (.inr (M, L))
  )
set_option maxRecDepth 4000 in
theorem ok_b_X12_read_206 {G : zG} {K : zK} {R : zR} {M : zM} {L : zL} (hW : zWT R K) {a0 : Nat} (k_a0 : K[a0]? = some (12, 61)) {r : Option Value} {S' : zS} {x : (zM × zL) ⊕ ((zM × zL))} (h : b_X12_read_206 R M L a0 = some x) (hk : Sum.elim (P_X12_read_206 G K R a0 r S') (Q_X12_read_206 G K R a0 r S') x) : P_X12_read_206 G K R a0 r S' (M, L) := by
  show Rn G mt_X12_read 206 [(0, .ref a0)] [] (M, L, R, K) r S'
  unfold b_X12_read_206 at h
  refine rn_aload_n (q := 0) 0 rfl zd_X12_read_7.2.1.1.2 ?_
  refine rn_getI zf_X12_182 (Or.inl rfl) k_a0 zd_X12_read_7.2.1.2.1 ?_
  rcases zif_e h with ⟨hc37, h⟩ | ⟨hc37, h⟩
  · refine rn_if_ne_f (tgt := 228) hc37 zd_X12_read_7.2.1.2.2 rfl ?_
    refine rn_aload_n (q := 0) 0 rfl zd_X12_read_7.2.2.1.1 ?_
    refine rn_iconst (v := 0) zd_X12_read_7.2.2.1.2 rfl ?_
    obtain ⟨r38, h39, h⟩ := zbd_e h
    refine rn_callVi (As := [.int (0 : Int32)]) (rest := []) zl_X12_200 zm_X12_is ⟨by decide, by decide⟩ (ci := 12) rfl rfl (by decide) k_a0 rfl rfl (Nat.le_of_ble_eq_true rfl) zd_X12_read_7.2.2.2.1 (ok_X12_is hW k_a0 h39) ?_
    rcases zif_e h with ⟨hc40, h⟩ | ⟨hc40, h⟩
    · refine rn_if_ne_f (tgt := 228) hc40 zd_X12_read_7.2.2.2.2 rfl ?_
      refine rn_aload_n (q := 0) 0 rfl zd_X12_read_8.1.1.1.1 ?_
      obtain ⟨M41, L42, h43, h⟩ := zbd2_e h
      refine rn_callVv (As := []) (rest := []) zl_X12_227 zm_X12_tell ⟨by decide, by decide⟩ (ci := 12) rfl rfl (by decide) k_a0 rfl rfl (Nat.le_of_ble_eq_true rfl) zd_X12_read_8.1.1.1.2 (ok_X12_tell hW k_a0 h43) ?_
      refine rn_goto (tgt := 206) zd_X12_read_8.1.1.2.1 rfl ?_
      cases h
      exact rn_sub (ls' := [(0, .ref a0)]) [0] rfl hk
    · refine rn_if_ne_t (tgt := 228) hc40 zd_X12_read_7.2.2.2.2 rfl ?_
      cases h
      exact rn_sub (ls' := [(0, .ref a0)]) [0] rfl hk
  · refine rn_if_ne_t (tgt := 228) hc37 zd_X12_read_7.2.1.2.2 rfl ?_
    cases h
    exact rn_sub (ls' := [(0, .ref a0)]) [0] rfl hk
abbrev P_X12_read_295 (G : zG) (K : zK) (R : zR) (L : zL) (a0 : Nat) (r : Option Value) (S' : zS) (v : Int32 × zM) : Prop := Rn G mt_X12_read 295 [(0, .ref a0), (1, .int v.1)] [] (v.2, L, R, K) r S'
abbrev Q_X12_read_295 (G : zG) (K : zK) (R : zR) (L : zL) (a0 : Nat) (r : Option Value) (S' : zS) : (zM) → Prop := (fun e => Rn G mt_X12_read 314 [(0, .ref a0)] [] (e, L, R, K) r S')
def b_X12_read_295 (R : zR) (M : zM) (L : zL) (a0 : Nat) (x1 : Int32) : Option ((Int32 × zM) ⊕ ((zM))) :=
  if (60 : Int32) ≤ x1 then (
    some (.inr M)
  ) else (
    zck (zin x1 60) <|
    zlt (zup M (R a0 45) (ztn x1) (0 : Int32)) fun M53 =>
    some (.inl ((x1 + 1), M53))
  )
set_option maxRecDepth 4000 in
theorem ok_b_X12_read_295 {G : zG} {K : zK} {R : zR} {M : zM} {L : zL} (hW : zWT R K) {a0 : Nat} {x1 : Int32} (k_a0 : K[a0]? = some (12, 61)) {r : Option Value} {S' : zS} {x : (Int32 × zM) ⊕ ((zM))} (h : b_X12_read_295 R M L a0 x1 = some x) (hk : Sum.elim (P_X12_read_295 G K R L a0 r S') (Q_X12_read_295 G K R L a0 r S') x) : P_X12_read_295 G K R L a0 r S' (x1, M) := by
  show Rn G mt_X12_read 295 [(0, .ref a0), (1, .int x1)] [] (M, L, R, K) r S'
  unfold b_X12_read_295 at h
  refine rn_iload_n (q := 1) 1 rfl zd_X12_read_10.1.2.1.1 ?_
  refine rn_bipush (v := 60) zd_X12_read_10.1.2.1.2 rfl ?_
  rcases zif_e h with ⟨hc51, h⟩ | ⟨hc51, h⟩
  · refine rn_icmp_ge_t (tgt := 314) hc51 zd_X12_read_10.1.2.2.1 rfl ?_
    cases h
    exact rn_sub (ls' := [(0, .ref a0)]) [0] rfl hk
  · refine rn_icmp_ge_f (tgt := 314) hc51 zd_X12_read_10.1.2.2.1 rfl ?_
    refine rn_aload_n (q := 0) 0 rfl zd_X12_read_10.1.2.2.2 ?_
    refine rn_getR zf_X12_101 (Or.inr ⟨_, rfl⟩) k_a0 (zx_12_45 hW k_a0) zd_X12_read_10.2.1.1.1 ?_
    refine rn_iload_n (q := 1) 1 rfl zd_X12_read_10.2.1.1.2 ?_
    refine rn_iconst (v := 0) zd_X12_read_10.2.1.2.1 rfl ?_
    obtain ⟨hc52, h⟩ := zck_e h
    obtain ⟨M53, hM53, h⟩ := zlt_e h
    refine rn_iast hM53 (zw_12_45 hW k_a0) hc52 zd_X12_read_10.2.1.2.2 ?_
    refine rn_iinc (v := (x1 + 1)) (ls' := [(1, .int (x1 + 1)), (0, .ref a0)]) 1 rfl rfl (by decide) rfl zd_X12_read_10.2.2.1.1 ?_
    refine rn_goto (tgt := 295) zd_X12_read_10.2.2.1.2 rfl ?_
    cases h
    exact rn_sub (ls' := [(0, .ref a0), (1, .int (x1 + 1))]) [1, 0] rfl hk
abbrev P_X12_read_332 (G : zG) (K : zK) (R : zR) (L : zL) (a0 : Nat) (r : Option Value) (S' : zS) (v : Int32 × zM) : Prop := Rn G mt_X12_read 332 [(0, .ref a0), (1, .int v.1)] [] (v.2, L, R, K) r S'
abbrev Q_X12_read_332 (G : zG) (K : zK) (R : zR) (L : zL) (a0 : Nat) (r : Option Value) (S' : zS) : (zM) → Prop := (fun e => Rn G mt_X12_read 371 [(0, .ref a0)] [] (e, L, R, K) r S')
def b_X12_read_332 (R : zR) (M : zM) (L : zL) (a0 : Nat) (x1 : Int32) : Option ((Int32 × zM) ⊕ ((zM))) :=
  zck (zin (M a0 18) 2) <|
  if (M (R a0 22) (ztn (M a0 18))) ≤ x1 then (
    some (.inr M)
  ) else (
    zck (zin (((10 : Int32) * (M a0 18)) + x1) 20) <|
    zck (zin x1 60) <|
    zlt (zup M (R a0 45) (ztn x1) (M (R a0 23) (ztn (((10 : Int32) * (M a0 18)) + x1)))) fun M61 =>
    some (.inl ((x1 + 1), M61))
  )
set_option maxRecDepth 4000 in
theorem ok_b_X12_read_332 {G : zG} {K : zK} {R : zR} {M : zM} {L : zL} (hW : zWT R K) {a0 : Nat} {x1 : Int32} (k_a0 : K[a0]? = some (12, 61)) {r : Option Value} {S' : zS} {x : (Int32 × zM) ⊕ ((zM))} (h : b_X12_read_332 R M L a0 x1 = some x) (hk : Sum.elim (P_X12_read_332 G K R L a0 r S') (Q_X12_read_332 G K R L a0 r S') x) : P_X12_read_332 G K R L a0 r S' (x1, M) := by
  show Rn G mt_X12_read 332 [(0, .ref a0), (1, .int x1)] [] (M, L, R, K) r S'
  unfold b_X12_read_332 at h
  refine rn_iload_n (q := 1) 1 rfl zd_X12_read_11.2.1.1.2 ?_
  refine rn_aload_n (q := 0) 0 rfl zd_X12_read_11.2.1.2.1 ?_
  refine rn_getR zf_X12_43 (Or.inr ⟨_, rfl⟩) k_a0 (zx_12_22 hW k_a0) zd_X12_read_11.2.1.2.2 ?_
  refine rn_aload_n (q := 0) 0 rfl zd_X12_read_11.2.2.1.1 ?_
  refine rn_getI zf_X12_212 (Or.inl rfl) k_a0 zd_X12_read_11.2.2.1.2 ?_
  obtain ⟨hc57, h⟩ := zck_e h
  refine rn_iald (zw_12_22 hW k_a0) hc57 zd_X12_read_11.2.2.2.1 ?_
  rcases zif_e h with ⟨hc58, h⟩ | ⟨hc58, h⟩
  · refine rn_icmp_ge_t (tgt := 371) hc58 zd_X12_read_11.2.2.2.2 rfl ?_
    cases h
    exact rn_sub (ls' := [(0, .ref a0)]) [0] rfl hk
  · refine rn_icmp_ge_f (tgt := 371) hc58 zd_X12_read_11.2.2.2.2 rfl ?_
    refine rn_aload_n (q := 0) 0 rfl zd_X12_read_12.1.1.1.1 ?_
    refine rn_getR zf_X12_101 (Or.inr ⟨_, rfl⟩) k_a0 (zx_12_45 hW k_a0) zd_X12_read_12.1.1.1.2 ?_
    refine rn_iload_n (q := 1) 1 rfl zd_X12_read_12.1.1.2.1 ?_
    refine rn_aload_n (q := 0) 0 rfl zd_X12_read_12.1.1.2.2 ?_
    refine rn_getR zf_X12_46 (Or.inr ⟨_, rfl⟩) k_a0 (zx_12_23 hW k_a0) zd_X12_read_12.1.2.1.1 ?_
    refine rn_bipush (v := 10) zd_X12_read_12.1.2.1.2 rfl ?_
    refine rn_aload_n (q := 0) 0 rfl zd_X12_read_12.1.2.2.1 ?_
    refine rn_getI zf_X12_212 (Or.inl rfl) k_a0 zd_X12_read_12.1.2.2.2 ?_
    refine rn_imul zd_X12_read_12.2.1.1.1 ?_
    refine rn_iload_n (q := 1) 1 rfl zd_X12_read_12.2.1.1.2 ?_
    refine rn_iadd zd_X12_read_12.2.1.2.1 ?_
    obtain ⟨hc59, h⟩ := zck_e h
    refine rn_iald (zw_12_23 hW k_a0) hc59 zd_X12_read_12.2.1.2.2 ?_
    obtain ⟨hc60, h⟩ := zck_e h
    obtain ⟨M61, hM61, h⟩ := zlt_e h
    refine rn_iast hM61 (zw_12_45 hW k_a0) hc60 zd_X12_read_12.2.2.1.1 ?_
    refine rn_iinc (v := (x1 + 1)) (ls' := [(1, .int (x1 + 1)), (0, .ref a0)]) 1 rfl rfl (by decide) rfl zd_X12_read_12.2.2.1.2 ?_
    refine rn_goto (tgt := 332) zd_X12_read_12.2.2.2.1 rfl ?_
    cases h
    exact rn_sub (ls' := [(0, .ref a0), (1, .int (x1 + 1))]) [1, 0] rfl hk
abbrev P_X12_read_383 (G : zG) (K : zK) (R : zR) (L : zL) (a0 : Nat) (r : Option Value) (S' : zS) (v : Int32 × zM) : Prop := Rn G mt_X12_read 383 [(0, .ref a0), (1, .int v.1)] [] (v.2, L, R, K) r S'
abbrev Q_X12_read_383 (G : zG) (K : zK) (R : zR) (L : zL) (a0 : Nat) (r : Option Value) (S' : zS) : (zM) → Prop := (fun e => Rn G mt_X12_read 401 [] [] (e, L, R, K) r S')
def b_X12_read_383 (R : zR) (M : zM) (L : zL) (a0 : Nat) (x1 : Int32) : Option ((Int32 × zM) ⊕ ((zM))) :=
  if (3 : Int32) ≤ x1 then (
    some (.inr M)
  ) else (
    zck (zin x1 3) <|
    zlt (zup M (R a0 59) (ztn x1) (0 : Int32)) fun M67 =>
    some (.inl ((x1 + 1), M67))
  )
set_option maxRecDepth 4000 in
theorem ok_b_X12_read_383 {G : zG} {K : zK} {R : zR} {M : zM} {L : zL} (hW : zWT R K) {a0 : Nat} {x1 : Int32} (k_a0 : K[a0]? = some (12, 61)) {r : Option Value} {S' : zS} {x : (Int32 × zM) ⊕ ((zM))} (h : b_X12_read_383 R M L a0 x1 = some x) (hk : Sum.elim (P_X12_read_383 G K R L a0 r S') (Q_X12_read_383 G K R L a0 r S') x) : P_X12_read_383 G K R L a0 r S' (x1, M) := by
  show Rn G mt_X12_read 383 [(0, .ref a0), (1, .int x1)] [] (M, L, R, K) r S'
  unfold b_X12_read_383 at h
  refine rn_iload_n (q := 1) 1 rfl zd_X12_read_13.1.2.2.2 ?_
  refine rn_iconst (v := 3) zd_X12_read_13.2.1.1.1 rfl ?_
  rcases zif_e h with ⟨hc65, h⟩ | ⟨hc65, h⟩
  · refine rn_icmp_ge_t (tgt := 401) hc65 zd_X12_read_13.2.1.1.2 rfl ?_
    cases h
    exact rn_sub (ls' := []) [] rfl hk
  · refine rn_icmp_ge_f (tgt := 401) hc65 zd_X12_read_13.2.1.1.2 rfl ?_
    refine rn_aload_n (q := 0) 0 rfl zd_X12_read_13.2.1.2.1 ?_
    refine rn_getR zf_X12_134 (Or.inr ⟨_, rfl⟩) k_a0 (zx_12_59 hW k_a0) zd_X12_read_13.2.1.2.2 ?_
    refine rn_iload_n (q := 1) 1 rfl zd_X12_read_13.2.2.1.1 ?_
    refine rn_iconst (v := 0) zd_X12_read_13.2.2.1.2 rfl ?_
    obtain ⟨hc66, h⟩ := zck_e h
    obtain ⟨M67, hM67, h⟩ := zlt_e h
    refine rn_zast rfl hM67 (zw_12_59 hW k_a0) hc66 zd_X12_read_13.2.2.2.1 ?_
    refine rn_iinc (v := (x1 + 1)) (ls' := [(1, .int (x1 + 1)), (0, .ref a0)]) 1 rfl rfl (by decide) rfl zd_X12_read_13.2.2.2.2 ?_
    refine rn_goto (tgt := 383) zd_X12_read_14.1 rfl ?_
    cases h
    exact rn_sub (ls' := [(0, .ref a0), (1, .int (x1 + 1))]) [1, 0] rfl hk
def j_X12_read_258 (R : zR) (M : zM) (L : zL) (a0 : Nat) (b0 : Nat) (s1 : Int32) : Option (Int32 × zM × zL) :=
  zlt (zup M b0 17 s1) fun M47 =>
  if (M47 a0 13) ≤ 0 then (
    if (M47 a0 15) ≤ 0 then (
      zlt (zup M47 a0 18 (M47 a0 19)) fun M50 =>
      zbd (zloop zN (fun v => b_X12_read_295 R v.2 L a0 v.1) ((0 : Int32), M50)) fun e54 =>
      zck (zin (e54 a0 18) 2) <|
      zlt (zup e54 (R a0 45) (ztn (40 : Int32)) (e54 (R a0 22) (ztn (e54 a0 18)))) fun M56 =>
      zbd (zloop zN (fun v => b_X12_read_332 R v.2 L a0 v.1) ((0 : Int32), M56)) fun e62 =>
      zlt (zup e62 a0 48 (0 : Int32)) fun M63 =>
      zlt (zup M63 a0 53 (0 : Int32)) fun M64 =>
      zbd (zloop zN (fun v => b_X12_read_383 R v.2 L a0 v.1) ((0 : Int32), M64)) fun e68 =>
      some ((0 : Int32), e68, L)
    ) else (
      some ((M47 a0 15), M47, L)
    )
  ) else (
    some ((M47 a0 13), M47, L)
  )
set_option maxRecDepth 4000 in
theorem ok_j_X12_read_258 {G : zG} {K : zK} {R : zR} {M : zM} {L : zL} (hW : zWT R K) {a0 : Nat} {b0 : Nat} {s1 : Int32} (k_a0 : K[a0]? = some (12, 61)) (k_b0 : K[b0]? = some (12, 61)) {r' : Int32} {M' : zM} {L' : zL} (h : j_X12_read_258 R M L a0 b0 s1 = some (r', M', L')) : Rn G mt_X12_read 258 [(0, .ref a0)] [.int s1, .ref b0] (M, L, R, K) (some (.int r')) (M', L', R, K) := by
  unfold j_X12_read_258 at h
  obtain ⟨M47, hM47, h⟩ := zlt_e h
  refine rn_putI hM47 zf_X12_37 k_b0 zd_X12_read_9.1.1.1.2 ?_
  refine rn_aload_n (q := 0) 0 rfl zd_X12_read_9.1.1.2.1 ?_
  refine rn_getI zf_X12_182 (Or.inl rfl) k_a0 zd_X12_read_9.1.1.2.2 ?_
  rcases zif_e h with ⟨hc48, h⟩ | ⟨hc48, h⟩
  · refine rn_if_le_t (tgt := 273) hc48 zd_X12_read_9.1.2.1.1 rfl ?_
    refine rn_aload_n (q := 0) 0 rfl zd_X12_read_9.2.1.1.1 ?_
    refine rn_getI zf_X12_191 (Or.inl rfl) k_a0 zd_X12_read_9.2.1.1.2 ?_
    rcases zif_e h with ⟨hc49, h⟩ | ⟨hc49, h⟩
    · refine rn_if_le_t (tgt := 285) hc49 zd_X12_read_9.2.1.2.1 rfl ?_
      refine rn_aload_n (q := 0) 0 rfl zd_X12_read_9.2.2.2.1 ?_
      refine rn_aload_n (q := 0) 0 rfl zd_X12_read_9.2.2.2.2 ?_
      refine rn_getI zf_X12_215 (Or.inl rfl) k_a0 zd_X12_read_10.1.1.1.1 ?_
      obtain ⟨M50, hM50, h⟩ := zlt_e h
      refine rn_putI hM50 zf_X12_212 k_a0 zd_X12_read_10.1.1.1.2 ?_
      refine rn_iconst (v := 0) zd_X12_read_10.1.1.2.1 rfl ?_
      refine rn_istore_n (q := 1) (ls' := [(1, .int (0 : Int32)), (0, .ref a0)]) (by decide) rfl zd_X12_read_10.1.1.2.2 ?_
      obtain ⟨e54, he54, h⟩ := zbd_e h
      refine rn_sub (ls' := [(0, .ref a0), (1, .int (0 : Int32))]) [1, 0] rfl (zloop_ok (P := P_X12_read_295 G K R L a0 (some (.int r')) (M', L', R, K)) (Q := Q_X12_read_295 G K R L a0 (some (.int r')) (M', L', R, K)) (fun v x hx hq => ok_b_X12_read_295 hW k_a0 hx hq) _ _ _ he54 ?_)
      show Rn G mt_X12_read 314 [(0, .ref a0)] [] (e54, L, R, K) (some (.int r')) (M', L', R, K)
      refine rn_aload_n (q := 0) 0 rfl zd_X12_read_10.2.2.2.1 ?_
      refine rn_getR zf_X12_101 (Or.inr ⟨_, rfl⟩) k_a0 (zx_12_45 hW k_a0) zd_X12_read_10.2.2.2.2 ?_
      refine rn_bipush (v := 40) zd_X12_read_11.1.1.1.1 rfl ?_
      refine rn_aload_n (q := 0) 0 rfl zd_X12_read_11.1.1.1.2 ?_
      refine rn_getR zf_X12_43 (Or.inr ⟨_, rfl⟩) k_a0 (zx_12_22 hW k_a0) zd_X12_read_11.1.1.2.1 ?_
      refine rn_aload_n (q := 0) 0 rfl zd_X12_read_11.1.1.2.2 ?_
      refine rn_getI zf_X12_212 (Or.inl rfl) k_a0 zd_X12_read_11.1.2.1.1 ?_
      obtain ⟨hc55, h⟩ := zck_e h
      refine rn_iald (zw_12_22 hW k_a0) hc55 zd_X12_read_11.1.2.1.2 ?_
      obtain ⟨M56, hM56, h⟩ := zlt_e h
      refine rn_iast hM56 (zw_12_45 hW k_a0) (by decide) zd_X12_read_11.1.2.2.1 ?_
      refine rn_iconst (v := 0) zd_X12_read_11.1.2.2.2 rfl ?_
      refine rn_istore_n (q := 1) (ls' := [(1, .int (0 : Int32)), (0, .ref a0)]) (by decide) rfl zd_X12_read_11.2.1.1.1 ?_
      obtain ⟨e62, he62, h⟩ := zbd_e h
      refine rn_sub (ls' := [(0, .ref a0), (1, .int (0 : Int32))]) [1, 0] rfl (zloop_ok (P := P_X12_read_332 G K R L a0 (some (.int r')) (M', L', R, K)) (Q := Q_X12_read_332 G K R L a0 (some (.int r')) (M', L', R, K)) (fun v x hx hq => ok_b_X12_read_332 hW k_a0 hx hq) _ _ _ he62 ?_)
      show Rn G mt_X12_read 371 [(0, .ref a0)] [] (e62, L, R, K) (some (.int r')) (M', L', R, K)
      refine rn_aload_n (q := 0) 0 rfl zd_X12_read_12.2.2.2.2 ?_
      refine rn_iconst (v := 0) zd_X12_read_13.1.1.1.1 rfl ?_
      obtain ⟨M63, hM63, h⟩ := zlt_e h
      refine rn_putI hM63 zf_X12_230 k_a0 zd_X12_read_13.1.1.1.2 ?_
      refine rn_aload_n (q := 0) 0 rfl zd_X12_read_13.1.1.2.1 ?_
      refine rn_iconst (v := 0) zd_X12_read_13.1.1.2.2 rfl ?_
      obtain ⟨M64, hM64, h⟩ := zlt_e h
      refine rn_putI hM64 zf_X12_233 k_a0 zd_X12_read_13.1.2.1.1 ?_
      refine rn_iconst (v := 0) zd_X12_read_13.1.2.1.2 rfl ?_
      refine rn_istore_n (q := 1) (ls' := [(1, .int (0 : Int32)), (0, .ref a0)]) (by decide) rfl zd_X12_read_13.1.2.2.1 ?_
      obtain ⟨e68, he68, h⟩ := zbd_e h
      refine rn_sub (ls' := [(0, .ref a0), (1, .int (0 : Int32))]) [1, 0] rfl (zloop_ok (P := P_X12_read_383 G K R L a0 (some (.int r')) (M', L', R, K)) (Q := Q_X12_read_383 G K R L a0 (some (.int r')) (M', L', R, K)) (fun v x hx hq => ok_b_X12_read_383 hW k_a0 hx hq) _ _ _ he68 ?_)
      show Rn G mt_X12_read 401 [] [] (e68, L, R, K) (some (.int r')) (M', L', R, K)
      refine rn_iconst (v := 0) zd_X12_read_14.2.1 rfl ?_
      cases h
      exact rn_iret zd_X12_read_14.2.2 rfl
    · refine rn_if_le_f (tgt := 285) hc49 zd_X12_read_9.2.1.2.1 rfl ?_
      refine rn_aload_n (q := 0) 0 rfl zd_X12_read_9.2.1.2.2 ?_
      refine rn_getI zf_X12_191 (Or.inl rfl) k_a0 zd_X12_read_9.2.2.1.1 ?_
      cases h
      exact rn_iret zd_X12_read_9.2.2.1.2 rfl
  · refine rn_if_le_f (tgt := 273) hc48 zd_X12_read_9.1.2.1.1 rfl ?_
    refine rn_aload_n (q := 0) 0 rfl zd_X12_read_9.1.2.1.2 ?_
    refine rn_getI zf_X12_182 (Or.inl rfl) k_a0 zd_X12_read_9.1.2.2.1 ?_
    cases h
    exact rn_iret zd_X12_read_9.1.2.2.2 rfl
def f_X12_read (R : zR) (M : zM) (L : zL) (a0 : Nat) : Option (Int32 × zM × zL) :=
  zlt (zup M a0 4 (M a0 2)) fun M1 =>
  zbd (zloop zN (fun v => b_X12_read_10 R v.2 L a0 v.1) ((0 : Int32), M1)) fun e6 =>
  zlt (zup e6 a0 2 (0 : Int32)) fun M7 =>
  zbd2 (f_X12_cut R M7 L a0) fun M8 L9 =>
  zlt (zup M8 a0 11 (0 : Int32)) fun M11 =>
  zlt (zup M11 a0 12 (0 : Int32)) fun M12 =>
  zlt (zup M12 a0 13 (0 : Int32)) fun M13 =>
  zlt (zup M13 a0 15 (0 : Int32)) fun M14 =>
  zlt (zup M14 a0 19 ((1 : Int32) - (M14 a0 18))) fun M15 =>
  zlt (zup M15 a0 20 (0 : Int32)) fun M16 =>
  zck (zin (M16 a0 19) 2) <|
  zlt (zup M16 (R a0 22) (ztn (M16 a0 19)) (0 : Int32)) fun M18 =>
  zck (zin (M18 a0 19) 2) <|
  zlt (zup M18 (R a0 24) (ztn (M18 a0 19)) (0 : Int32)) fun M20 =>
  zck (zin (M20 a0 19) 2) <|
  zlt (zup M20 (R a0 25) (ztn (M20 a0 19)) (0 : Int32)) fun M22 =>
  zck (zin (M22 a0 19) 2) <|
  zlt (zup M22 (R a0 26) (ztn (M22 a0 19)) (0 : Int32)) fun M24 =>
  zck (zin (M24 a0 19) 2) <|
  zlt (zup M24 (R a0 27) (ztn (M24 a0 19)) (7 : Int32)) fun M26 =>
  zck (zin (M26 a0 19) 2) <|
  zlt (zup M26 (R a0 28) (ztn (M26 a0 19)) (0 : Int32)) fun M28 =>
  zlt (zup M28 a0 31 ((130 : Int32) * (M28 a0 19))) fun M29 =>
  zlt (zup M29 a0 37 ((420 : Int32) * (M29 a0 19))) fun M30 =>
  zbd (zloop zN (fun v => b_X12_read_167 R v.2 L9 a0 v.1) ((0 : Int32), M30)) fun e36 =>
  zbd (zloop zN (fun v => b_X12_read_206 R v.1 v.2 a0) (e36, L9)) fun e44 =>
  if (e44.1 a0 13) ≤ 0 then (
    if (e44.1 a0 15) ≤ 0 then (
      j_X12_read_258 R e44.1 e44.2 a0 a0 (-1 : Int32)
    ) else (
      j_X12_read_258 R e44.1 e44.2 a0 a0 (e44.1 a0 16)
    )
  ) else (
    j_X12_read_258 R e44.1 e44.2 a0 a0 (e44.1 a0 14)
  )
set_option maxRecDepth 4000 in
theorem ok_X12_read {G : zG} {K : zK} {R : zR} {M : zM} {L : zL} (hW : zWT R K) {a0 : Nat} (k_a0 : K[a0]? = some (12, 61)) {r' : Int32} {M' : zM} {L' : zL} (h : f_X12_read R M L a0 = some (r', M', L')) : Rm G mt_X12_read [.ref a0] (M, L, R, K) (some (.int r')) (M', L', R, K) := by
  refine rm_rn rfl rfl (Nat.le_of_ble_eq_true rfl) ?_
  show Rn G mt_X12_read 0 [(0, .ref a0)] [] (M, L, R, K) (some (.int r')) (M', L', R, K)
  unfold f_X12_read at h
  refine rn_aload_n (q := 0) 0 rfl zd_X12_read_0.1.1.1.1 ?_
  refine rn_aload_n (q := 0) 0 rfl zd_X12_read_0.1.1.1.2 ?_
  refine rn_getI zf_X12_144 (Or.inl rfl) k_a0 zd_X12_read_0.1.1.2.1 ?_
  obtain ⟨M1, hM1, h⟩ := zlt_e h
  refine rn_putI hM1 zf_X12_151 k_a0 zd_X12_read_0.1.1.2.2 ?_
  refine rn_iconst (v := 0) zd_X12_read_0.1.2.1.1 rfl ?_
  refine rn_istore_n (q := 1) (ls' := [(1, .int (0 : Int32)), (0, .ref a0)]) (by decide) rfl zd_X12_read_0.1.2.1.2 ?_
  obtain ⟨e6, he6, h⟩ := zbd_e h
  refine rn_sub (ls' := [(0, .ref a0), (1, .int (0 : Int32))]) [1, 0] rfl (zloop_ok (P := P_X12_read_10 G K R L a0 (some (.int r')) (M', L', R, K)) (Q := Q_X12_read_10 G K R L a0 (some (.int r')) (M', L', R, K)) (fun v x hx hq => ok_b_X12_read_10 hW k_a0 hx hq) _ _ _ he6 ?_)
  show Rn G mt_X12_read 36 [(0, .ref a0)] [] (e6, L, R, K) (some (.int r')) (M', L', R, K)
  refine rn_aload_n (q := 0) 0 rfl zd_X12_read_1.1.2.1.1 ?_
  refine rn_iconst (v := 0) zd_X12_read_1.1.2.1.2 rfl ?_
  obtain ⟨M7, hM7, h⟩ := zlt_e h
  refine rn_putI hM7 zf_X12_144 k_a0 zd_X12_read_1.1.2.2.1 ?_
  refine rn_aload_n (q := 0) 0 rfl zd_X12_read_1.1.2.2.2 ?_
  obtain ⟨M8, L9, h10, h⟩ := zbd2_e h
  refine rn_callVv (As := []) (rest := []) zl_X12_206 zm_X12_cut ⟨by decide, by decide⟩ (ci := 12) rfl rfl (by decide) k_a0 rfl rfl (Nat.le_of_ble_eq_true rfl) zd_X12_read_1.2.1.1.1 (ok_X12_cut hW k_a0 h10) ?_
  refine rn_aload_n (q := 0) 0 rfl zd_X12_read_1.2.1.1.2 ?_
  refine rn_iconst (v := 0) zd_X12_read_1.2.1.2.1 rfl ?_
  obtain ⟨M11, hM11, h⟩ := zlt_e h
  refine rn_putI hM11 zf_X12_185 k_a0 zd_X12_read_1.2.1.2.2 ?_
  refine rn_aload_n (q := 0) 0 rfl zd_X12_read_1.2.2.1.1 ?_
  refine rn_iconst (v := 0) zd_X12_read_1.2.2.1.2 rfl ?_
  obtain ⟨M12, hM12, h⟩ := zlt_e h
  refine rn_putI hM12 zf_X12_209 k_a0 zd_X12_read_1.2.2.2.1 ?_
  refine rn_aload_n (q := 0) 0 rfl zd_X12_read_1.2.2.2.2 ?_
  refine rn_iconst (v := 0) zd_X12_read_2.1.1.1.1 rfl ?_
  obtain ⟨M13, hM13, h⟩ := zlt_e h
  refine rn_putI hM13 zf_X12_182 k_a0 zd_X12_read_2.1.1.1.2 ?_
  refine rn_aload_n (q := 0) 0 rfl zd_X12_read_2.1.1.2.1 ?_
  refine rn_iconst (v := 0) zd_X12_read_2.1.1.2.2 rfl ?_
  obtain ⟨M14, hM14, h⟩ := zlt_e h
  refine rn_putI hM14 zf_X12_191 k_a0 zd_X12_read_2.1.2.1.1 ?_
  refine rn_aload_n (q := 0) 0 rfl zd_X12_read_2.1.2.1.2 ?_
  refine rn_iconst (v := 1) zd_X12_read_2.1.2.2.1 rfl ?_
  refine rn_aload_n (q := 0) 0 rfl zd_X12_read_2.1.2.2.2 ?_
  refine rn_getI zf_X12_212 (Or.inl rfl) k_a0 zd_X12_read_2.2.1.1.1 ?_
  refine rn_isub zd_X12_read_2.2.1.1.2 ?_
  obtain ⟨M15, hM15, h⟩ := zlt_e h
  refine rn_putI hM15 zf_X12_215 k_a0 zd_X12_read_2.2.1.2.1 ?_
  refine rn_aload_n (q := 0) 0 rfl zd_X12_read_2.2.1.2.2 ?_
  refine rn_iconst (v := 0) zd_X12_read_2.2.2.1.1 rfl ?_
  obtain ⟨M16, hM16, h⟩ := zlt_e h
  refine rn_putI hM16 zf_X12_218 k_a0 zd_X12_read_2.2.2.1.2 ?_
  refine rn_aload_n (q := 0) 0 rfl zd_X12_read_2.2.2.2.1 ?_
  refine rn_getR zf_X12_43 (Or.inr ⟨_, rfl⟩) k_a0 (zx_12_22 hW k_a0) zd_X12_read_2.2.2.2.2 ?_
  refine rn_aload_n (q := 0) 0 rfl zd_X12_read_3.1.1.1.1 ?_
  refine rn_getI zf_X12_215 (Or.inl rfl) k_a0 zd_X12_read_3.1.1.1.2 ?_
  refine rn_iconst (v := 0) zd_X12_read_3.1.1.2.1 rfl ?_
  obtain ⟨hc17, h⟩ := zck_e h
  obtain ⟨M18, hM18, h⟩ := zlt_e h
  refine rn_iast hM18 (zw_12_22 hW k_a0) hc17 zd_X12_read_3.1.1.2.2 ?_
  refine rn_aload_n (q := 0) 0 rfl zd_X12_read_3.1.2.1.1 ?_
  refine rn_getR zf_X12_49 (Or.inr ⟨_, rfl⟩) k_a0 (zx_12_24 hW k_a0) zd_X12_read_3.1.2.1.2 ?_
  refine rn_aload_n (q := 0) 0 rfl zd_X12_read_3.1.2.2.1 ?_
  refine rn_getI zf_X12_215 (Or.inl rfl) k_a0 zd_X12_read_3.1.2.2.2 ?_
  refine rn_iconst (v := 0) zd_X12_read_3.2.1.1.1 rfl ?_
  obtain ⟨hc19, h⟩ := zck_e h
  obtain ⟨M20, hM20, h⟩ := zlt_e h
  refine rn_zast rfl hM20 (zw_12_24 hW k_a0) hc19 zd_X12_read_3.2.1.1.2 ?_
  refine rn_aload_n (q := 0) 0 rfl zd_X12_read_3.2.1.2.1 ?_
  refine rn_getR zf_X12_53 (Or.inr ⟨_, rfl⟩) k_a0 (zx_12_25 hW k_a0) zd_X12_read_3.2.1.2.2 ?_
  refine rn_aload_n (q := 0) 0 rfl zd_X12_read_3.2.2.1.1 ?_
  refine rn_getI zf_X12_215 (Or.inl rfl) k_a0 zd_X12_read_3.2.2.1.2 ?_
  refine rn_iconst (v := 0) zd_X12_read_3.2.2.2.1 rfl ?_
  obtain ⟨hc21, h⟩ := zck_e h
  obtain ⟨M22, hM22, h⟩ := zlt_e h
  refine rn_zast rfl hM22 (zw_12_25 hW k_a0) hc21 zd_X12_read_3.2.2.2.2 ?_
  refine rn_aload_n (q := 0) 0 rfl zd_X12_read_4.1.1.1.1 ?_
  refine rn_getR zf_X12_56 (Or.inr ⟨_, rfl⟩) k_a0 (zx_12_26 hW k_a0) zd_X12_read_4.1.1.1.2 ?_
  refine rn_aload_n (q := 0) 0 rfl zd_X12_read_4.1.1.2.1 ?_
  refine rn_getI zf_X12_215 (Or.inl rfl) k_a0 zd_X12_read_4.1.1.2.2 ?_
  refine rn_iconst (v := 0) zd_X12_read_4.1.2.1.1 rfl ?_
  obtain ⟨hc23, h⟩ := zck_e h
  obtain ⟨M24, hM24, h⟩ := zlt_e h
  refine rn_iast hM24 (zw_12_26 hW k_a0) hc23 zd_X12_read_4.1.2.1.2 ?_
  refine rn_aload_n (q := 0) 0 rfl zd_X12_read_4.1.2.2.1 ?_
  refine rn_getR zf_X12_59 (Or.inr ⟨_, rfl⟩) k_a0 (zx_12_27 hW k_a0) zd_X12_read_4.1.2.2.2 ?_
  refine rn_aload_n (q := 0) 0 rfl zd_X12_read_4.2.1.1.1 ?_
  refine rn_getI zf_X12_215 (Or.inl rfl) k_a0 zd_X12_read_4.2.1.1.2 ?_
  refine rn_bipush (v := 7) zd_X12_read_4.2.1.2.1 rfl ?_
  obtain ⟨hc25, h⟩ := zck_e h
  obtain ⟨M26, hM26, h⟩ := zlt_e h
  refine rn_iast hM26 (zw_12_27 hW k_a0) hc25 zd_X12_read_4.2.1.2.2 ?_
  refine rn_aload_n (q := 0) 0 rfl zd_X12_read_4.2.2.1.1 ?_
  refine rn_getR zf_X12_62 (Or.inr ⟨_, rfl⟩) k_a0 (zx_12_28 hW k_a0) zd_X12_read_4.2.2.1.2 ?_
  refine rn_aload_n (q := 0) 0 rfl zd_X12_read_4.2.2.2.1 ?_
  refine rn_getI zf_X12_215 (Or.inl rfl) k_a0 zd_X12_read_4.2.2.2.2 ?_
  refine rn_iconst (v := 0) zd_X12_read_5.1.1.1.1 rfl ?_
  obtain ⟨hc27, h⟩ := zck_e h
  obtain ⟨M28, hM28, h⟩ := zlt_e h
  refine rn_iast hM28 (zw_12_28 hW k_a0) hc27 zd_X12_read_5.1.1.1.2 ?_
  refine rn_aload_n (q := 0) 0 rfl zd_X12_read_5.1.1.2.1 ?_
  refine rn_sipush (v := 130) zd_X12_read_5.1.1.2.2 rfl ?_
  refine rn_aload_n (q := 0) 0 rfl zd_X12_read_5.1.2.1.1 ?_
  refine rn_getI zf_X12_215 (Or.inl rfl) k_a0 zd_X12_read_5.1.2.1.2 ?_
  refine rn_imul zd_X12_read_5.1.2.2.1 ?_
  obtain ⟨M29, hM29, h⟩ := zlt_e h
  refine rn_putI hM29 zf_X12_221 k_a0 zd_X12_read_5.1.2.2.2 ?_
  refine rn_aload_n (q := 0) 0 rfl zd_X12_read_5.2.1.1.1 ?_
  refine rn_sipush (v := 420) zd_X12_read_5.2.1.1.2 rfl ?_
  refine rn_aload_n (q := 0) 0 rfl zd_X12_read_5.2.1.2.1 ?_
  refine rn_getI zf_X12_215 (Or.inl rfl) k_a0 zd_X12_read_5.2.1.2.2 ?_
  refine rn_imul zd_X12_read_5.2.2.1.1 ?_
  obtain ⟨M30, hM30, h⟩ := zlt_e h
  refine rn_putI hM30 zf_X12_224 k_a0 zd_X12_read_5.2.2.1.2 ?_
  refine rn_iconst (v := 0) zd_X12_read_5.2.2.2.1 rfl ?_
  refine rn_istore_n (q := 1) (ls' := [(1, .int (0 : Int32)), (0, .ref a0)]) (by decide) rfl zd_X12_read_5.2.2.2.2 ?_
  obtain ⟨e36, he36, h⟩ := zbd_e h
  refine rn_sub (ls' := [(0, .ref a0), (1, .int (0 : Int32))]) [1, 0] rfl (zloop_ok (P := P_X12_read_167 G K R L9 a0 (some (.int r')) (M', L', R, K)) (Q := Q_X12_read_167 G K R L9 a0 (some (.int r')) (M', L', R, K)) (fun v x hx hq => ok_b_X12_read_167 hW k_a0 hx hq) _ _ _ he36 ?_)
  show Rn G mt_X12_read 206 [(0, .ref a0)] [] (e36, L9, R, K) (some (.int r')) (M', L', R, K)
  obtain ⟨e44, he44, h⟩ := zbd_e h
  refine rn_sub (ls' := [(0, .ref a0)]) [0] rfl (zloop_ok (P := P_X12_read_206 G K R a0 (some (.int r')) (M', L', R, K)) (Q := Q_X12_read_206 G K R a0 (some (.int r')) (M', L', R, K)) (fun v x hx hq => ok_b_X12_read_206 hW k_a0 hx hq) _ _ _ he44 ?_)
  show Rn G mt_X12_read 228 [(0, .ref a0)] [] (e44.1, e44.2, R, K) (some (.int r')) (M', L', R, K)
  refine rn_aload_n (q := 0) 0 rfl zd_X12_read_8.1.1.2.2 ?_
  refine rn_aload_n (q := 0) 0 rfl zd_X12_read_8.1.2.1.1 ?_
  refine rn_getI zf_X12_182 (Or.inl rfl) k_a0 zd_X12_read_8.1.2.1.2 ?_
  rcases zif_e h with ⟨hc45, h⟩ | ⟨hc45, h⟩
  · refine rn_if_le_t (tgt := 243) hc45 zd_X12_read_8.1.2.2.1 rfl ?_
    refine rn_aload_n (q := 0) 0 rfl zd_X12_read_8.2.1.2.1 ?_
    refine rn_getI zf_X12_191 (Or.inl rfl) k_a0 zd_X12_read_8.2.1.2.2 ?_
    rcases zif_e h with ⟨hc46, h⟩ | ⟨hc46, h⟩
    · refine rn_if_le_t (tgt := 257) hc46 zd_X12_read_8.2.2.1.1 rfl ?_
      refine rn_iconst (v := -1) zd_X12_read_9.1.1.1.1 rfl ?_
      exact rn_sub (ls' := [(0, .ref a0)]) [0] rfl (ok_j_X12_read_258 hW k_a0 k_a0 h)
    · refine rn_if_le_f (tgt := 257) hc46 zd_X12_read_8.2.2.1.1 rfl ?_
      refine rn_aload_n (q := 0) 0 rfl zd_X12_read_8.2.2.1.2 ?_
      refine rn_getI zf_X12_194 (Or.inl rfl) k_a0 zd_X12_read_8.2.2.2.1 ?_
      refine rn_goto (tgt := 258) zd_X12_read_8.2.2.2.2 rfl ?_
      exact rn_sub (ls' := [(0, .ref a0)]) [0] rfl (ok_j_X12_read_258 hW k_a0 k_a0 h)
  · refine rn_if_le_f (tgt := 243) hc45 zd_X12_read_8.1.2.2.1 rfl ?_
    refine rn_aload_n (q := 0) 0 rfl zd_X12_read_8.1.2.2.2 ?_
    refine rn_getI zf_X12_188 (Or.inl rfl) k_a0 zd_X12_read_8.2.1.1.1 ?_
    refine rn_goto (tgt := 258) zd_X12_read_8.2.1.1.2 rfl ?_
    exact rn_sub (ls' := [(0, .ref a0)]) [0] rfl (ok_j_X12_read_258 hW k_a0 k_a0 h)
def f_X12_place (M : zM) (a0 : Nat) : Option (Int32) :=
  some (M a0 17)
set_option maxRecDepth 4000 in
theorem ok_X12_place {G : zG} {K : zK} {R : zR} {M : zM} {L : zL} (hW : zWT R K) {a0 : Nat} (k_a0 : K[a0]? = some (12, 61)) {r' : Int32} (h : f_X12_place M a0 = some r') : Rm G mt_X12_place [.ref a0] (M, L, R, K) (some (.int r')) (M, L, R, K) := by
  refine rm_rn rfl rfl (Nat.le_of_ble_eq_true rfl) ?_
  show Rn G mt_X12_place 0 [(0, .ref a0)] [] (M, L, R, K) (some (.int r')) (M, L, R, K)
  unfold f_X12_place at h
  refine rn_aload_n (q := 0) 0 rfl zd_X12_place_0.1 ?_
  refine rn_getI zf_X12_37 (Or.inl rfl) k_a0 zd_X12_place_0.2.1 ?_
  cases h
  exact rn_iret zd_X12_place_0.2.2 rfl
abbrev P_X12_termOf_5 (G : zG) (K : zK) (R : zR) (L : zL) (a0 : Nat) (x2 : Int32) (r : Option Value) (S' : zS) (v : Int32 × Int32 × zM) : Prop := Rn G mt_X12_termOf 5 [(0, .ref a0), (2, .int x2), (3, .int v.1), (4, .int v.2.1)] [] (v.2.2, L, R, K) r S'
abbrev Q_X12_termOf_5 (G : zG) (K : zK) (R : zR) (L : zL) (a0 : Nat) (x2 : Int32) (r : Option Value) (S' : zS) : (zM) ⊕ (zM) → Prop := (Sum.elim (fun e => Rn G mt_X12_termOf 97 [(0, .ref a0)] [] (e, L, R, K) r S') (fun e => Rn G mt_X12_termOf 165 [(0, .ref a0)] [] (e, L, R, K) r S'))
def j_X12_termOf_158 (R : zR) (M : zM) (a0 : Nat) (x2 : Int32) (x3 : Int32) (x4 : Int32) (b0 : Nat) (s1 : Int32) (s2 : Int32) : Option ((Int32 × Int32 × zM) ⊕ ((zM) ⊕ (zM))) :=
  zck (zin s1 400) <|
  zlt (zup M b0 (ztn s1) s2) fun M12 =>
  some (.inl (x3, (x4 + 1), M12))
set_option maxRecDepth 4000 in
theorem ok_j_X12_termOf_158 {G : zG} {K : zK} {R : zR} {M : zM} {L : zL} (hW : zWT R K) {a0 : Nat} {x2 : Int32} {x3 : Int32} {x4 : Int32} {b0 : Nat} {s1 : Int32} {s2 : Int32} (k_a0 : K[a0]? = some (12, 61)) (k_b0 : K[b0]? = some (20, 400)) {r : Option Value} {S' : zS} {x : (Int32 × Int32 × zM) ⊕ ((zM) ⊕ (zM))} (h : j_X12_termOf_158 R M a0 x2 x3 x4 b0 s1 s2 = some x) (hk : Sum.elim (P_X12_termOf_5 G K R L a0 x2 r S') (Q_X12_termOf_5 G K R L a0 x2 r S') x) : Rn G mt_X12_termOf 158 [(0, .ref a0), (2, .int x2), (3, .int x3), (4, .int x4)] [.int s2, .int s1, .ref b0] (M, L, R, K) r S' := by
  unfold j_X12_termOf_158 at h
  obtain ⟨hc11, h⟩ := zck_e h
  obtain ⟨M12, hM12, h⟩ := zlt_e h
  refine rn_iast hM12 k_b0 hc11 zd_X12_termOf_5.2.1.1.1 ?_
  refine rn_iinc (v := (x4 + 1)) (ls' := [(4, .int (x4 + 1)), (0, .ref a0), (2, .int x2), (3, .int x3)]) 3 rfl rfl (by decide) rfl zd_X12_termOf_5.2.1.1.2 ?_
  refine rn_goto (tgt := 5) zd_X12_termOf_5.2.1.2.1 rfl ?_
  cases h
  exact rn_sub (ls' := [(0, .ref a0), (2, .int x2), (3, .int x3), (4, .int (x4 + 1))]) [1, 2, 3, 0] rfl hk
def j_X12_termOf_104 (R : zR) (M : zM) (a0 : Nat) (x2 : Int32) (x3 : Int32) (x4 : Int32) (x5 : Int32) (x6 : Int32) (x7 : Int32) : Option ((Int32 × Int32 × zM) ⊕ ((zM) ⊕ (zM))) :=
  if x5 = (2 : Int32) then (
    j_X12_termOf_158 R M a0 x2 x3 x4 (R a0 43) (x3 - (1 : Int32)) (x6 + x7)
  ) else (
    if x5 = (3 : Int32) then (
      j_X12_termOf_158 R M a0 x2 x3 x4 (R a0 43) (x3 - (1 : Int32)) (x6 - x7)
    ) else (
      if x5 = (4 : Int32) then (
        j_X12_termOf_158 R M a0 x2 x3 x4 (R a0 43) (x3 - (1 : Int32)) (x6 * x7)
      ) else (
        zck (znz x7) <|
        j_X12_termOf_158 R M a0 x2 x3 x4 (R a0 43) (x3 - (1 : Int32)) (x6 / x7)
      )
    )
  )
set_option maxRecDepth 4000 in
theorem ok_j_X12_termOf_104 {G : zG} {K : zK} {R : zR} {M : zM} {L : zL} (hW : zWT R K) {a0 : Nat} {x2 : Int32} {x3 : Int32} {x4 : Int32} {x5 : Int32} {x6 : Int32} {x7 : Int32} (k_a0 : K[a0]? = some (12, 61)) {r : Option Value} {S' : zS} {x : (Int32 × Int32 × zM) ⊕ ((zM) ⊕ (zM))} (h : j_X12_termOf_104 R M a0 x2 x3 x4 x5 x6 x7 = some x) (hk : Sum.elim (P_X12_termOf_5 G K R L a0 x2 r S') (Q_X12_termOf_5 G K R L a0 x2 r S') x) : Rn G mt_X12_termOf 104 [(0, .ref a0), (2, .int x2), (3, .int x3), (4, .int x4), (5, .int x5), (6, .int x6), (7, .int x7)] [] (M, L, R, K) r S' := by
  unfold j_X12_termOf_104 at h
  refine rn_aload_n (q := 0) 0 rfl zd_X12_termOf_3.2.1.2.1 ?_
  refine rn_getR zf_X12_98 (Or.inr ⟨_, rfl⟩) k_a0 (zx_12_43 hW k_a0) zd_X12_termOf_3.2.1.2.2 ?_
  refine rn_iload_n (q := 3) 2 rfl zd_X12_termOf_3.2.2.1.1 ?_
  refine rn_iconst (v := 1) zd_X12_termOf_3.2.2.1.2 rfl ?_
  refine rn_isub zd_X12_termOf_3.2.2.2.1 ?_
  refine rn_iload 4 rfl zd_X12_termOf_3.2.2.2.2 ?_
  refine rn_iconst (v := 2) zd_X12_termOf_4.1.1.1.1 rfl ?_
  rcases zif_e h with ⟨hc7, h⟩ | ⟨hc7, h⟩
  · refine rn_icmp_ne_f (tgt := 125) hc7 zd_X12_termOf_4.1.1.1.2 rfl ?_
    refine rn_iload 5 rfl zd_X12_termOf_4.1.1.2.1 ?_
    refine rn_iload 6 rfl zd_X12_termOf_4.1.1.2.2 ?_
    refine rn_iadd zd_X12_termOf_4.1.2.1.1 ?_
    refine rn_goto (tgt := 158) zd_X12_termOf_4.1.2.1.2 rfl ?_
    exact rn_sub (ls' := [(0, .ref a0), (2, .int x2), (3, .int x3), (4, .int x4)]) [0, 1, 2, 3] rfl (ok_j_X12_termOf_158 hW k_a0 (zw_12_43 hW k_a0) h hk)
  · refine rn_icmp_ne_t (tgt := 125) hc7 zd_X12_termOf_4.1.1.1.2 rfl ?_
    refine rn_iload 4 rfl zd_X12_termOf_4.1.2.2.1 ?_
    refine rn_iconst (v := 3) zd_X12_termOf_4.1.2.2.2 rfl ?_
    rcases zif_e h with ⟨hc8, h⟩ | ⟨hc8, h⟩
    · refine rn_icmp_ne_f (tgt := 139) hc8 zd_X12_termOf_4.2.1.1.1 rfl ?_
      refine rn_iload 5 rfl zd_X12_termOf_4.2.1.1.2 ?_
      refine rn_iload 6 rfl zd_X12_termOf_4.2.1.2.1 ?_
      refine rn_isub zd_X12_termOf_4.2.1.2.2 ?_
      refine rn_goto (tgt := 158) zd_X12_termOf_4.2.2.1.1 rfl ?_
      exact rn_sub (ls' := [(0, .ref a0), (2, .int x2), (3, .int x3), (4, .int x4)]) [0, 1, 2, 3] rfl (ok_j_X12_termOf_158 hW k_a0 (zw_12_43 hW k_a0) h hk)
    · refine rn_icmp_ne_t (tgt := 139) hc8 zd_X12_termOf_4.2.1.1.1 rfl ?_
      refine rn_iload 4 rfl zd_X12_termOf_4.2.2.1.2 ?_
      refine rn_iconst (v := 4) zd_X12_termOf_4.2.2.2.1 rfl ?_
      rcases zif_e h with ⟨hc9, h⟩ | ⟨hc9, h⟩
      · refine rn_icmp_ne_f (tgt := 153) hc9 zd_X12_termOf_4.2.2.2.2 rfl ?_
        refine rn_iload 5 rfl zd_X12_termOf_5.1.1.1 ?_
        refine rn_iload 6 rfl zd_X12_termOf_5.1.1.2.1 ?_
        refine rn_imul zd_X12_termOf_5.1.1.2.2 ?_
        refine rn_goto (tgt := 158) zd_X12_termOf_5.1.2.1.1 rfl ?_
        exact rn_sub (ls' := [(0, .ref a0), (2, .int x2), (3, .int x3), (4, .int x4)]) [0, 1, 2, 3] rfl (ok_j_X12_termOf_158 hW k_a0 (zw_12_43 hW k_a0) h hk)
      · refine rn_icmp_ne_t (tgt := 153) hc9 zd_X12_termOf_4.2.2.2.2 rfl ?_
        refine rn_iload 5 rfl zd_X12_termOf_5.1.2.1.2 ?_
        refine rn_iload 6 rfl zd_X12_termOf_5.1.2.2.1 ?_
        obtain ⟨hc10, h⟩ := zck_e h
        refine rn_idiv zd_X12_termOf_5.1.2.2.2 (znz_e hc10) ?_
        exact rn_sub (ls' := [(0, .ref a0), (2, .int x2), (3, .int x3), (4, .int x4)]) [0, 1, 2, 3] rfl (ok_j_X12_termOf_158 hW k_a0 (zw_12_43 hW k_a0) h hk)
def j_X12_termOf_58 (R : zR) (M : zM) (a0 : Nat) (x2 : Int32) (x3 : Int32) (x4 : Int32) (b0 : Nat) (s1 : Int32) (s2 : Int32) : Option ((Int32 × Int32 × zM) ⊕ ((zM) ⊕ (zM))) :=
  zck (zin s1 400) <|
  zlt (zup M b0 (ztn s1) s2) fun M18 =>
  some (.inl ((x3 + 1), (x4 + 1), M18))
set_option maxRecDepth 4000 in
theorem ok_j_X12_termOf_58 {G : zG} {K : zK} {R : zR} {M : zM} {L : zL} (hW : zWT R K) {a0 : Nat} {x2 : Int32} {x3 : Int32} {x4 : Int32} {b0 : Nat} {s1 : Int32} {s2 : Int32} (k_a0 : K[a0]? = some (12, 61)) (k_b0 : K[b0]? = some (20, 400)) {r : Option Value} {S' : zS} {x : (Int32 × Int32 × zM) ⊕ ((zM) ⊕ (zM))} (h : j_X12_termOf_58 R M a0 x2 x3 x4 b0 s1 s2 = some x) (hk : Sum.elim (P_X12_termOf_5 G K R L a0 x2 r S') (Q_X12_termOf_5 G K R L a0 x2 r S') x) : Rn G mt_X12_termOf 58 [(0, .ref a0), (2, .int x2), (3, .int x3), (4, .int x4)] [.int s2, .int s1, .ref b0] (M, L, R, K) r S' := by
  unfold j_X12_termOf_58 at h
  obtain ⟨hc17, h⟩ := zck_e h
  obtain ⟨M18, hM18, h⟩ := zlt_e h
  refine rn_iast hM18 k_b0 hc17 zd_X12_termOf_2.1.1.1.1 ?_
  refine rn_iinc (v := (x3 + 1)) (ls' := [(3, .int (x3 + 1)), (0, .ref a0), (2, .int x2), (4, .int x4)]) 2 rfl rfl (by decide) rfl zd_X12_termOf_2.1.1.1.2 ?_
  refine rn_goto (tgt := 159) zd_X12_termOf_2.1.1.2.1 rfl ?_
  refine rn_iinc (v := (x4 + 1)) (ls' := [(4, .int (x4 + 1)), (3, .int (x3 + 1)), (0, .ref a0), (2, .int x2)]) 3 rfl rfl (by decide) rfl zd_X12_termOf_5.2.1.1.2 ?_
  refine rn_goto (tgt := 5) zd_X12_termOf_5.2.1.2.1 rfl ?_
  cases h
  exact rn_sub (ls' := [(0, .ref a0), (2, .int x2), (3, .int (x3 + 1)), (4, .int (x4 + 1))]) [2, 3, 1, 0] rfl hk
def b_X12_termOf_5 (R : zR) (M : zM) (a0 : Nat) (x2 : Int32) (x3 : Int32) (x4 : Int32) : Option ((Int32 × Int32 × zM) ⊕ ((zM) ⊕ (zM))) :=
  if x2 ≤ x4 then (
    some (.inr (.inr M))
  ) else (
    zck (zin x4 840) <|
    if (2 : Int32) ≤ (M (R a0 38) (ztn x4)) then (
      zck (zin ((x3 + (-1)) - (1 : Int32)) 400) <|
      zck (zin (x3 + (-1)) 400) <|
      if (M (R a0 38) (ztn x4)) = (5 : Int32) then (
        if (M (R a0 43) (ztn (x3 + (-1)))) = 0 then (
          some (.inr (.inl M))
        ) else (
          j_X12_termOf_104 R M a0 x2 (x3 + (-1)) x4 (M (R a0 38) (ztn x4)) (M (R a0 43) (ztn ((x3 + (-1)) - (1 : Int32)))) (M (R a0 43) (ztn (x3 + (-1))))
        )
      ) else (
        j_X12_termOf_104 R M a0 x2 (x3 + (-1)) x4 (M (R a0 38) (ztn x4)) (M (R a0 43) (ztn ((x3 + (-1)) - (1 : Int32)))) (M (R a0 43) (ztn (x3 + (-1))))
      )
    ) else (
      if (M (R a0 38) (ztn x4)) = 0 then (
        zck (zin x4 840) <|
        j_X12_termOf_58 R M a0 x2 x3 x4 (R a0 43) x3 (M (R a0 39) (ztn x4))
      ) else (
        zck (zin x4 840) <|
        zck (zin (M (R a0 39) (ztn x4)) 7) <|
        j_X12_termOf_58 R M a0 x2 x3 x4 (R a0 43) x3 (M (R a0 42) (ztn (M (R a0 39) (ztn x4))))
      )
    )
  )
set_option maxRecDepth 4000 in
theorem ok_b_X12_termOf_5 {G : zG} {K : zK} {R : zR} {M : zM} {L : zL} (hW : zWT R K) {a0 : Nat} {x2 : Int32} {x3 : Int32} {x4 : Int32} (k_a0 : K[a0]? = some (12, 61)) {r : Option Value} {S' : zS} {x : (Int32 × Int32 × zM) ⊕ ((zM) ⊕ (zM))} (h : b_X12_termOf_5 R M a0 x2 x3 x4 = some x) (hk : Sum.elim (P_X12_termOf_5 G K R L a0 x2 r S') (Q_X12_termOf_5 G K R L a0 x2 r S') x) : P_X12_termOf_5 G K R L a0 x2 r S' (x3, x4, M) := by
  show Rn G mt_X12_termOf 5 [(0, .ref a0), (2, .int x2), (3, .int x3), (4, .int x4)] [] (M, L, R, K) r S'
  unfold b_X12_termOf_5 at h
  refine rn_iload 3 rfl zd_X12_termOf_0.1.2.1.1 ?_
  refine rn_iload_n (q := 2) 1 rfl zd_X12_termOf_0.1.2.1.2 ?_
  rcases zif_e h with ⟨hc1, h⟩ | ⟨hc1, h⟩
  · refine rn_icmp_ge_t (tgt := 165) hc1 zd_X12_termOf_0.1.2.2.1 rfl ?_
    cases h
    exact rn_sub (ls' := [(0, .ref a0)]) [0] rfl hk
  · refine rn_icmp_ge_f (tgt := 165) hc1 zd_X12_termOf_0.1.2.2.1 rfl ?_
    refine rn_aload_n (q := 0) 0 rfl zd_X12_termOf_0.1.2.2.2 ?_
    refine rn_getR zf_X12_86 (Or.inr ⟨_, rfl⟩) k_a0 (zx_12_38 hW k_a0) zd_X12_termOf_0.2.1.1.1 ?_
    refine rn_iload 3 rfl zd_X12_termOf_0.2.1.1.2 ?_
    obtain ⟨hc2, h⟩ := zck_e h
    refine rn_iald (zw_12_38 hW k_a0) hc2 zd_X12_termOf_0.2.1.2.1 ?_
    refine rn_istore (ls' := [(5, .int (M (R a0 38) (ztn x4))), (0, .ref a0), (2, .int x2), (3, .int x3), (4, .int x4)]) (by decide) rfl zd_X12_termOf_0.2.1.2.2 ?_
    refine rn_iload 0 rfl zd_X12_termOf_0.2.2.1.1 ?_
    refine rn_iconst (v := 2) zd_X12_termOf_0.2.2.1.2 rfl ?_
    rcases zif_e h with ⟨hc3, h⟩ | ⟨hc3, h⟩
    · refine rn_icmp_ge_t (tgt := 65) hc3 zd_X12_termOf_0.2.2.2.1 rfl ?_
      refine rn_iinc (v := (x3 + (-1))) (ls' := [(3, .int (x3 + (-1))), (5, .int (M (R a0 38) (ztn x4))), (0, .ref a0), (2, .int x2), (4, .int x4)]) 3 rfl (congrArg (fun z => x3 + z) (show Int32.ofInt (-1) = -1 by decide)) (by decide) rfl zd_X12_termOf_2.1.1.2.2 ?_
      refine rn_aload_n (q := 0) 2 rfl zd_X12_termOf_2.1.2.1.1 ?_
      refine rn_getR zf_X12_98 (Or.inr ⟨_, rfl⟩) k_a0 (zx_12_43 hW k_a0) zd_X12_termOf_2.1.2.1.2 ?_
      refine rn_iload_n (q := 3) 0 rfl zd_X12_termOf_2.1.2.2.1 ?_
      refine rn_iconst (v := 1) zd_X12_termOf_2.1.2.2.2 rfl ?_
      refine rn_isub zd_X12_termOf_2.2.1.1.1 ?_
      obtain ⟨hc4, h⟩ := zck_e h
      refine rn_iald (zw_12_43 hW k_a0) hc4 zd_X12_termOf_2.2.1.1.2 ?_
      refine rn_istore (ls' := [(6, .int (M (R a0 43) (ztn ((x3 + (-1)) - (1 : Int32))))), (3, .int (x3 + (-1))), (5, .int (M (R a0 38) (ztn x4))), (0, .ref a0), (2, .int x2), (4, .int x4)]) (by decide) rfl zd_X12_termOf_2.2.1.2.1 ?_
      refine rn_aload_n (q := 0) 3 rfl zd_X12_termOf_2.2.1.2.2 ?_
      refine rn_getR zf_X12_98 (Or.inr ⟨_, rfl⟩) k_a0 (zx_12_43 hW k_a0) zd_X12_termOf_2.2.2.1.1 ?_
      refine rn_iload_n (q := 3) 1 rfl zd_X12_termOf_2.2.2.1.2 ?_
      obtain ⟨hc5, h⟩ := zck_e h
      refine rn_iald (zw_12_43 hW k_a0) hc5 zd_X12_termOf_2.2.2.2.1 ?_
      refine rn_istore (ls' := [(7, .int (M (R a0 43) (ztn (x3 + (-1))))), (6, .int (M (R a0 43) (ztn ((x3 + (-1)) - (1 : Int32))))), (3, .int (x3 + (-1))), (5, .int (M (R a0 38) (ztn x4))), (0, .ref a0), (2, .int x2), (4, .int x4)]) (by decide) rfl zd_X12_termOf_2.2.2.2.2 ?_
      refine rn_iload 3 rfl zd_X12_termOf_3.1.1.1.1 ?_
      refine rn_iconst (v := 5) zd_X12_termOf_3.1.1.1.2 rfl ?_
      rcases zif_e h with ⟨hc6, h⟩ | ⟨hc6, h⟩
      · refine rn_icmp_ne_f (tgt := 104) hc6 zd_X12_termOf_3.1.1.2.1 rfl ?_
        refine rn_iload 0 rfl zd_X12_termOf_3.1.1.2.2 ?_
        rcases zif_e h with ⟨hc13, h⟩ | ⟨hc13, h⟩
        · refine rn_if_ne_f (tgt := 104) hc13 zd_X12_termOf_3.1.2.1.1 rfl ?_
          cases h
          exact rn_sub (ls' := [(0, .ref a0)]) [4] rfl hk
        · refine rn_if_ne_t (tgt := 104) hc13 zd_X12_termOf_3.1.2.1.1 rfl ?_
          exact rn_sub (ls' := [(0, .ref a0), (2, .int x2), (3, .int (x3 + (-1))), (4, .int x4), (5, .int (M (R a0 38) (ztn x4))), (6, .int (M (R a0 43) (ztn ((x3 + (-1)) - (1 : Int32))))), (7, .int (M (R a0 43) (ztn (x3 + (-1)))))]) [4, 5, 2, 6, 3, 1, 0] rfl (ok_j_X12_termOf_104 hW k_a0 h hk)
      · refine rn_icmp_ne_t (tgt := 104) hc6 zd_X12_termOf_3.1.1.2.1 rfl ?_
        exact rn_sub (ls' := [(0, .ref a0), (2, .int x2), (3, .int (x3 + (-1))), (4, .int x4), (5, .int (M (R a0 38) (ztn x4))), (6, .int (M (R a0 43) (ztn ((x3 + (-1)) - (1 : Int32))))), (7, .int (M (R a0 43) (ztn (x3 + (-1)))))]) [4, 5, 2, 6, 3, 1, 0] rfl (ok_j_X12_termOf_104 hW k_a0 h hk)
    · refine rn_icmp_ge_f (tgt := 65) hc3 zd_X12_termOf_0.2.2.2.1 rfl ?_
      refine rn_aload_n (q := 0) 1 rfl zd_X12_termOf_0.2.2.2.2 ?_
      refine rn_getR zf_X12_98 (Or.inr ⟨_, rfl⟩) k_a0 (zx_12_43 hW k_a0) zd_X12_termOf_1.1.1.1.1 ?_
      refine rn_iload_n (q := 3) 3 rfl zd_X12_termOf_1.1.1.1.2 ?_
      refine rn_iload 0 rfl zd_X12_termOf_1.1.1.2.1 ?_
      rcases zif_e h with ⟨hc14, h⟩ | ⟨hc14, h⟩
      · refine rn_if_ne_f (tgt := 46) hc14 zd_X12_termOf_1.1.1.2.2 rfl ?_
        refine rn_aload_n (q := 0) 1 rfl zd_X12_termOf_1.1.2.1.1 ?_
        refine rn_getR zf_X12_89 (Or.inr ⟨_, rfl⟩) k_a0 (zx_12_39 hW k_a0) zd_X12_termOf_1.1.2.1.2 ?_
        refine rn_iload 4 rfl zd_X12_termOf_1.1.2.2.1 ?_
        obtain ⟨hc19, h⟩ := zck_e h
        refine rn_iald (zw_12_39 hW k_a0) hc19 zd_X12_termOf_1.1.2.2.2 ?_
        refine rn_goto (tgt := 58) zd_X12_termOf_1.2.1.1.1 rfl ?_
        exact rn_sub (ls' := [(0, .ref a0), (2, .int x2), (3, .int x3), (4, .int x4)]) [1, 2, 3, 4] rfl (ok_j_X12_termOf_58 hW k_a0 (zw_12_43 hW k_a0) h hk)
      · refine rn_if_ne_t (tgt := 46) hc14 zd_X12_termOf_1.1.1.2.2 rfl ?_
        refine rn_aload_n (q := 0) 1 rfl zd_X12_termOf_1.2.1.1.2 ?_
        refine rn_getR zf_X12_95 (Or.inr ⟨_, rfl⟩) k_a0 (zx_12_42 hW k_a0) zd_X12_termOf_1.2.1.2.1 ?_
        refine rn_aload_n (q := 0) 1 rfl zd_X12_termOf_1.2.1.2.2 ?_
        refine rn_getR zf_X12_89 (Or.inr ⟨_, rfl⟩) k_a0 (zx_12_39 hW k_a0) zd_X12_termOf_1.2.2.1.1 ?_
        refine rn_iload 4 rfl zd_X12_termOf_1.2.2.1.2 ?_
        obtain ⟨hc15, h⟩ := zck_e h
        refine rn_iald (zw_12_39 hW k_a0) hc15 zd_X12_termOf_1.2.2.2.1 ?_
        obtain ⟨hc16, h⟩ := zck_e h
        refine rn_iald (zw_12_42 hW k_a0) hc16 zd_X12_termOf_1.2.2.2.2 ?_
        exact rn_sub (ls' := [(0, .ref a0), (2, .int x2), (3, .int x3), (4, .int x4)]) [1, 2, 3, 4] rfl (ok_j_X12_termOf_58 hW k_a0 (zw_12_43 hW k_a0) h hk)
def f_X12_termOf (R : zR) (M : zM) (a0 : Nat) (x1 : Int32) (x2 : Int32) : Option (Int32 × zM) :=
  zbd (zloop zN (fun v => b_X12_termOf_5 R v.2.2 a0 x2 v.1 v.2.1) ((0 : Int32), x1, M)) fun e20 =>
  Sum.elim (fun e21 =>
    zlt (zup e21 a0 44 (1 : Int32)) fun M23 =>
    some ((0 : Int32), M23)
  ) (fun e22 =>
    some ((e22 (R a0 43) (ztn (0 : Int32))), e22)
  ) e20
set_option maxRecDepth 4000 in
theorem ok_X12_termOf {G : zG} {K : zK} {R : zR} {M : zM} {L : zL} (hW : zWT R K) {a0 : Nat} {x1 : Int32} {x2 : Int32} (k_a0 : K[a0]? = some (12, 61)) {r' : Int32} {M' : zM} (h : f_X12_termOf R M a0 x1 x2 = some (r', M')) : Rm G mt_X12_termOf [.ref a0, .int x1, .int x2] (M, L, R, K) (some (.int r')) (M', L, R, K) := by
  refine rm_rn rfl rfl (Nat.le_of_ble_eq_true rfl) ?_
  show Rn G mt_X12_termOf 0 [(0, .ref a0), (1, .int x1), (2, .int x2)] [] (M, L, R, K) (some (.int r')) (M', L, R, K)
  unfold f_X12_termOf at h
  refine rn_iconst (v := 0) zd_X12_termOf_0.1.1.1.1 rfl ?_
  refine rn_istore_n (q := 3) (ls' := [(3, .int (0 : Int32)), (0, .ref a0), (1, .int x1), (2, .int x2)]) (by decide) rfl zd_X12_termOf_0.1.1.1.2 ?_
  refine rn_iload_n (q := 1) 2 rfl zd_X12_termOf_0.1.1.2.1 ?_
  refine rn_istore (ls' := [(4, .int x1), (3, .int (0 : Int32)), (0, .ref a0), (1, .int x1), (2, .int x2)]) (by decide) rfl zd_X12_termOf_0.1.1.2.2 ?_
  obtain ⟨e20, he20, h⟩ := zbd_e h
  refine rn_sub (ls' := [(0, .ref a0), (2, .int x2), (3, .int (0 : Int32)), (4, .int x1)]) [2, 4, 1, 0] rfl (zloop_ok (P := P_X12_termOf_5 G K R L a0 x2 (some (.int r')) (M', L, R, K)) (Q := Q_X12_termOf_5 G K R L a0 x2 (some (.int r')) (M', L, R, K)) (fun v x hx hq => ok_b_X12_termOf_5 hW k_a0 hx hq) _ _ _ he20 ?_)
  rcases e20 with e21 | e22
  · rw [Sum.elim_inl] at h
    show Rn G mt_X12_termOf 97 [(0, .ref a0)] [] (e21, L, R, K) (some (.int r')) (M', L, R, K)
    refine rn_aload_n (q := 0) 0 rfl zd_X12_termOf_3.1.2.1.2 ?_
    refine rn_iconst (v := 1) zd_X12_termOf_3.1.2.2.1 rfl ?_
    obtain ⟨M23, hM23, h⟩ := zlt_e h
    refine rn_putB (Or.inr rfl) hM23 zf_X12_272 k_a0 zd_X12_termOf_3.1.2.2.2 ?_
    refine rn_iconst (v := 0) zd_X12_termOf_3.2.1.1.1 rfl ?_
    cases h
    exact rn_iret zd_X12_termOf_3.2.1.1.2 rfl
  · rw [Sum.elim_inr] at h
    show Rn G mt_X12_termOf 165 [(0, .ref a0)] [] (e22, L, R, K) (some (.int r')) (M', L, R, K)
    refine rn_aload_n (q := 0) 0 rfl zd_X12_termOf_5.2.1.2.2 ?_
    refine rn_getR zf_X12_98 (Or.inr ⟨_, rfl⟩) k_a0 (zx_12_43 hW k_a0) zd_X12_termOf_5.2.2.1.1 ?_
    refine rn_iconst (v := 0) zd_X12_termOf_5.2.2.1.2 rfl ?_
    refine rn_iald (zw_12_43 hW k_a0) (by decide) zd_X12_termOf_5.2.2.2.1 ?_
    cases h
    exact rn_iret zd_X12_termOf_5.2.2.2.2 rfl
def f_X12_in (x0 : Int32) (x1 : Int32) (x2 : Int32) : Option (Int32) :=
  if x0 < x1 then (
    some (0 : Int32)
  ) else (
    if x2 < x0 then (
      some (0 : Int32)
    ) else (
      some (1 : Int32)
    )
  )
set_option maxRecDepth 4000 in
theorem ok_X12_in {G : zG} {K : zK} {R : zR} {M : zM} {L : zL} (hW : zWT R K) {x0 : Int32} {x1 : Int32} {x2 : Int32} {r' : Int32} (h : f_X12_in x0 x1 x2 = some r') : Rm G mt_X12_in [.int x0, .int x1, .int x2] (M, L, R, K) (some (.int r')) (M, L, R, K) := by
  refine rm_rn rfl rfl (Nat.le_of_ble_eq_true rfl) ?_
  show Rn G mt_X12_in 0 [(0, .int x0), (1, .int x1), (2, .int x2)] [] (M, L, R, K) (some (.int r')) (M, L, R, K)
  unfold f_X12_in at h
  refine rn_iload_n (q := 0) 0 rfl zd_X12_in_0.1.1.1 ?_
  refine rn_iload_n (q := 1) 1 rfl zd_X12_in_0.1.1.2 ?_
  rcases zif_e h with ⟨hc1, h⟩ | ⟨hc1, h⟩
  · refine rn_icmp_lt_t (tgt := 14) hc1 zd_X12_in_0.1.2.1 rfl ?_
    refine rn_iconst (v := 0) zd_X12_in_0.2.2.2.1 rfl ?_
    cases h
    exact rn_zret zd_X12_in_0.2.2.2.2 rfl rfl
  · refine rn_icmp_lt_f (tgt := 14) hc1 zd_X12_in_0.1.2.1 rfl ?_
    refine rn_iload_n (q := 0) 0 rfl zd_X12_in_0.1.2.2.1 ?_
    refine rn_iload_n (q := 2) 2 rfl zd_X12_in_0.1.2.2.2 ?_
    rcases zif_e h with ⟨hc2, h⟩ | ⟨hc2, h⟩
    · refine rn_icmp_gt_t (tgt := 14) hc2 zd_X12_in_0.2.1.1 rfl ?_
      refine rn_iconst (v := 0) zd_X12_in_0.2.2.2.1 rfl ?_
      cases h
      exact rn_zret zd_X12_in_0.2.2.2.2 rfl rfl
    · refine rn_icmp_gt_f (tgt := 14) hc2 zd_X12_in_0.2.1.1 rfl ?_
      refine rn_iconst (v := 1) zd_X12_in_0.2.1.2 rfl ?_
      refine rn_goto (tgt := 15) zd_X12_in_0.2.2.1 rfl ?_
      cases h
      exact rn_zret zd_X12_in_0.2.2.2.2 rfl rfl
abbrev P_X12_copies_2 (G : zG) (K : zK) (R : zR) (L : zL) (a0 : Nat) (r : Option Value) (S' : zS) (v : Int32 × zM) : Prop := Rn G mt_X12_copies 2 [(0, .ref a0), (1, .int v.1)] [] (v.2, L, R, K) r S'
abbrev Q_X12_copies_2 (G : zG) (K : zK) (R : zR) (L : zL) (a0 : Nat) (r : Option Value) (S' : zS) : (zM) → Prop := (fun e => Rn G mt_X12_copies 26 [] [] (e, L, R, K) r S')
def b_X12_copies_2 (R : zR) (M : zM) (a0 : Nat) (x1 : Int32) : Option ((Int32 × zM) ⊕ ((zM))) :=
  if (60 : Int32) ≤ x1 then (
    some (.inr M)
  ) else (
    zck (zin x1 60) <|
    zck (zin x1 60) <|
    zlt (zup M (R a0 46) (ztn x1) (M (R a0 45) (ztn x1))) fun M4 =>
    some (.inl ((x1 + 1), M4))
  )
set_option maxRecDepth 4000 in
theorem ok_b_X12_copies_2 {G : zG} {K : zK} {R : zR} {M : zM} {L : zL} (hW : zWT R K) {a0 : Nat} {x1 : Int32} (k_a0 : K[a0]? = some (12, 61)) {r : Option Value} {S' : zS} {x : (Int32 × zM) ⊕ ((zM))} (h : b_X12_copies_2 R M a0 x1 = some x) (hk : Sum.elim (P_X12_copies_2 G K R L a0 r S') (Q_X12_copies_2 G K R L a0 r S') x) : P_X12_copies_2 G K R L a0 r S' (x1, M) := by
  show Rn G mt_X12_copies 2 [(0, .ref a0), (1, .int x1)] [] (M, L, R, K) r S'
  unfold b_X12_copies_2 at h
  refine rn_iload_n (q := 1) 1 rfl zd_X12_copies_0.1.1.2.1 ?_
  refine rn_bipush (v := 60) zd_X12_copies_0.1.1.2.2 rfl ?_
  rcases zif_e h with ⟨hc1, h⟩ | ⟨hc1, h⟩
  · refine rn_icmp_ge_t (tgt := 26) hc1 zd_X12_copies_0.1.2.1.1 rfl ?_
    cases h
    exact rn_sub (ls' := []) [] rfl hk
  · refine rn_icmp_ge_f (tgt := 26) hc1 zd_X12_copies_0.1.2.1.1 rfl ?_
    refine rn_aload_n (q := 0) 0 rfl zd_X12_copies_0.1.2.1.2 ?_
    refine rn_getR zf_X12_104 (Or.inr ⟨_, rfl⟩) k_a0 (zx_12_46 hW k_a0) zd_X12_copies_0.1.2.2.1 ?_
    refine rn_iload_n (q := 1) 1 rfl zd_X12_copies_0.1.2.2.2 ?_
    refine rn_aload_n (q := 0) 0 rfl zd_X12_copies_0.2.1.1.1 ?_
    refine rn_getR zf_X12_101 (Or.inr ⟨_, rfl⟩) k_a0 (zx_12_45 hW k_a0) zd_X12_copies_0.2.1.1.2 ?_
    refine rn_iload_n (q := 1) 1 rfl zd_X12_copies_0.2.1.2.1 ?_
    obtain ⟨hc2, h⟩ := zck_e h
    refine rn_iald (zw_12_45 hW k_a0) hc2 zd_X12_copies_0.2.1.2.2 ?_
    obtain ⟨hc3, h⟩ := zck_e h
    obtain ⟨M4, hM4, h⟩ := zlt_e h
    refine rn_iast hM4 (zw_12_46 hW k_a0) hc3 zd_X12_copies_0.2.2.1.1 ?_
    refine rn_iinc (v := (x1 + 1)) (ls' := [(1, .int (x1 + 1)), (0, .ref a0)]) 1 rfl rfl (by decide) rfl zd_X12_copies_0.2.2.1.2 ?_
    refine rn_goto (tgt := 2) zd_X12_copies_0.2.2.2.1 rfl ?_
    cases h
    exact rn_sub (ls' := [(0, .ref a0), (1, .int (x1 + 1))]) [1, 0] rfl hk
def f_X12_copies (R : zR) (M : zM) (a0 : Nat) : Option (zM) :=
  zbd (zloop zN (fun v => b_X12_copies_2 R v.2 a0 v.1) ((0 : Int32), M)) fun e5 =>
  some e5
set_option maxRecDepth 4000 in
theorem ok_X12_copies {G : zG} {K : zK} {R : zR} {M : zM} {L : zL} (hW : zWT R K) {a0 : Nat} (k_a0 : K[a0]? = some (12, 61)) {M' : zM} (h : f_X12_copies R M a0 = some M') : Rm G mt_X12_copies [.ref a0] (M, L, R, K) none (M', L, R, K) := by
  refine rm_rn rfl rfl (Nat.le_of_ble_eq_true rfl) ?_
  show Rn G mt_X12_copies 0 [(0, .ref a0)] [] (M, L, R, K) none (M', L, R, K)
  unfold f_X12_copies at h
  refine rn_iconst (v := 0) zd_X12_copies_0.1.1.1.1 rfl ?_
  refine rn_istore_n (q := 1) (ls' := [(1, .int (0 : Int32)), (0, .ref a0)]) (by decide) rfl zd_X12_copies_0.1.1.1.2 ?_
  obtain ⟨e5, he5, h⟩ := zbd_e h
  refine rn_sub (ls' := [(0, .ref a0), (1, .int (0 : Int32))]) [1, 0] rfl (zloop_ok (P := P_X12_copies_2 G K R L a0 none (M', L, R, K)) (Q := Q_X12_copies_2 G K R L a0 none (M', L, R, K)) (fun v x hx hq => ok_b_X12_copies_2 hW k_a0 hx hq) _ _ _ he5 ?_)
  show Rn G mt_X12_copies 26 [] [] (e5, L, R, K) none (M', L, R, K)
  cases h
  exact rn_vret zd_X12_copies_0.2.2.2.2 rfl
def f_X12_isHouse (R : zR) (M : zM) (a0 : Nat) (x1 : Int32) : Option (Int32) :=
  zbd (f_X12_in x1 (0 : Int32) ((M (R a0 45) (ztn (40 : Int32))) - (1 : Int32))) fun r1 =>
  zck (zbool r1) <|
  some r1
set_option maxRecDepth 4000 in
theorem ok_X12_isHouse {G : zG} {K : zK} {R : zR} {M : zM} {L : zL} (hW : zWT R K) {a0 : Nat} {x1 : Int32} (k_a0 : K[a0]? = some (12, 61)) {r' : Int32} (h : f_X12_isHouse R M a0 x1 = some r') : Rm G mt_X12_isHouse [.ref a0, .int x1] (M, L, R, K) (some (.int r')) (M, L, R, K) := by
  refine rm_rn rfl rfl (Nat.le_of_ble_eq_true rfl) ?_
  show Rn G mt_X12_isHouse 0 [(0, .ref a0), (1, .int x1)] [] (M, L, R, K) (some (.int r')) (M, L, R, K)
  unfold f_X12_isHouse at h
  refine rn_iload_n (q := 1) 1 rfl zd_X12_isHouse_0.1.1.1 ?_
  refine rn_iconst (v := 0) zd_X12_isHouse_0.1.1.2 rfl ?_
  refine rn_aload_n (q := 0) 0 rfl zd_X12_isHouse_0.1.2.1 ?_
  refine rn_getR zf_X12_101 (Or.inr ⟨_, rfl⟩) k_a0 (zx_12_45 hW k_a0) zd_X12_isHouse_0.1.2.2.1 ?_
  refine rn_bipush (v := 40) zd_X12_isHouse_0.1.2.2.2 rfl ?_
  refine rn_iald (zw_12_45 hW k_a0) (by decide) zd_X12_isHouse_0.2.1.1 ?_
  refine rn_iconst (v := 1) zd_X12_isHouse_0.2.1.2 rfl ?_
  refine rn_isub zd_X12_isHouse_0.2.2.1 ?_
  obtain ⟨r1, h2, h⟩ := zbd_e h
  refine rn_callSi (As := [.int x1, .int (0 : Int32), .int ((M (R a0 45) (ztn (40 : Int32))) - (1 : Int32))]) (rest := []) zl_X12_276 zm_X12_in ⟨by decide, by decide⟩ rfl rfl (Nat.le_of_ble_eq_true rfl) zd_X12_isHouse_0.2.2.2.1 (ok_X12_in hW h2) ?_
  obtain ⟨hc3, h⟩ := zck_e h
  cases h
  exact rn_zret zd_X12_isHouse_0.2.2.2.2 rfl (zbool_n hc3)
def f_X12_shownOf (R : zR) (M : zM) (a0 : Nat) (x1 : Int32) : Option (Int32) :=
  zck (zin x1 60) <|
  zck (zin ((10 : Int32) + x1) 60) <|
  some ((M (R a0 46) (ztn x1)) - (M (R a0 46) (ztn ((10 : Int32) + x1))))
set_option maxRecDepth 4000 in
theorem ok_X12_shownOf {G : zG} {K : zK} {R : zR} {M : zM} {L : zL} (hW : zWT R K) {a0 : Nat} {x1 : Int32} (k_a0 : K[a0]? = some (12, 61)) {r' : Int32} (h : f_X12_shownOf R M a0 x1 = some r') : Rm G mt_X12_shownOf [.ref a0, .int x1] (M, L, R, K) (some (.int r')) (M, L, R, K) := by
  refine rm_rn rfl rfl (Nat.le_of_ble_eq_true rfl) ?_
  show Rn G mt_X12_shownOf 0 [(0, .ref a0), (1, .int x1)] [] (M, L, R, K) (some (.int r')) (M, L, R, K)
  unfold f_X12_shownOf at h
  refine rn_aload_n (q := 0) 0 rfl zd_X12_shownOf_0.1.1.1 ?_
  refine rn_getR zf_X12_104 (Or.inr ⟨_, rfl⟩) k_a0 (zx_12_46 hW k_a0) zd_X12_shownOf_0.1.1.2.1 ?_
  refine rn_iload_n (q := 1) 1 rfl zd_X12_shownOf_0.1.1.2.2 ?_
  obtain ⟨hc1, h⟩ := zck_e h
  refine rn_iald (zw_12_46 hW k_a0) hc1 zd_X12_shownOf_0.1.2.1 ?_
  refine rn_aload_n (q := 0) 0 rfl zd_X12_shownOf_0.1.2.2.1 ?_
  refine rn_getR zf_X12_104 (Or.inr ⟨_, rfl⟩) k_a0 (zx_12_46 hW k_a0) zd_X12_shownOf_0.1.2.2.2 ?_
  refine rn_bipush (v := 10) zd_X12_shownOf_0.2.1.1 rfl ?_
  refine rn_iload_n (q := 1) 1 rfl zd_X12_shownOf_0.2.1.2.1 ?_
  refine rn_iadd zd_X12_shownOf_0.2.1.2.2 ?_
  obtain ⟨hc2, h⟩ := zck_e h
  refine rn_iald (zw_12_46 hW k_a0) hc2 zd_X12_shownOf_0.2.2.1 ?_
  refine rn_isub zd_X12_shownOf_0.2.2.2.1 ?_
  cases h
  exact rn_iret zd_X12_shownOf_0.2.2.2.2 rfl
def j_X12_beside_56 (R : zR) (M : zM) (a0 : Nat) (x4 : Int32) : Option (Int32) :=
  zbd (f_X12_shownOf R M a0 x4) fun r5 =>
  some r5
set_option maxRecDepth 4000 in
theorem ok_j_X12_beside_56 {G : zG} {K : zK} {R : zR} {M : zM} {L : zL} (hW : zWT R K) {a0 : Nat} {x4 : Int32} (k_a0 : K[a0]? = some (12, 61)) {r' : Int32} (h : j_X12_beside_56 R M a0 x4 = some r') : Rn G mt_X12_beside 56 [(0, .ref a0), (4, .int x4)] [] (M, L, R, K) (some (.int r')) (M, L, R, K) := by
  unfold j_X12_beside_56 at h
  refine rn_aload_n (q := 0) 0 rfl zd_X12_beside_2.1.1 ?_
  refine rn_iload 1 rfl zd_X12_beside_2.1.2 ?_
  obtain ⟨r5, h6, h⟩ := zbd_e h
  refine rn_callVi (As := [.int x4]) (rest := []) zl_X12_280 zm_X12_shownOf ⟨by decide, by decide⟩ (ci := 12) rfl rfl (by decide) k_a0 rfl rfl (Nat.le_of_ble_eq_true rfl) zd_X12_beside_2.2.1 (ok_X12_shownOf hW k_a0 h6) ?_
  cases h
  exact rn_iret zd_X12_beside_2.2.2 rfl
def j_X12_beside_54 (R : zR) (M : zM) (a0 : Nat) (s0 : Int32) : Option (Int32) :=
  j_X12_beside_56 R M a0 s0
set_option maxRecDepth 4000 in
theorem ok_j_X12_beside_54 {G : zG} {K : zK} {R : zR} {M : zM} {L : zL} (hW : zWT R K) {a0 : Nat} {s0 : Int32} (k_a0 : K[a0]? = some (12, 61)) {r' : Int32} (h : j_X12_beside_54 R M a0 s0 = some r') : Rn G mt_X12_beside 54 [(0, .ref a0)] [.int s0] (M, L, R, K) (some (.int r')) (M, L, R, K) := by
  unfold j_X12_beside_54 at h
  refine rn_istore (ls' := [(4, .int s0), (0, .ref a0)]) (by decide) rfl zd_X12_beside_1.2.2.2.2 ?_
  exact rn_sub (ls' := [(0, .ref a0), (4, .int s0)]) [1, 0] rfl (ok_j_X12_beside_56 hW k_a0 h)
def j_X12_beside_24 (R : zR) (M : zM) (a0 : Nat) (x1 : Int32) (x3 : Int32) (x4 : Int32) : Option (Int32) :=
  zck (zin (M a0 18) 2) <|
  if (M (R a0 24) (ztn (M a0 18))) = 0 then (
    if 0 ≤ x4 then (
      j_X12_beside_54 R M a0 (0 : Int32)
    ) else (
      j_X12_beside_54 R M a0 (x3 - (1 : Int32))
    )
  ) else (
    zbd (f_X12_shownOf R M a0 x1) fun r7 =>
    some r7
  )
set_option maxRecDepth 4000 in
theorem ok_j_X12_beside_24 {G : zG} {K : zK} {R : zR} {M : zM} {L : zL} (hW : zWT R K) {a0 : Nat} {x1 : Int32} {x3 : Int32} {x4 : Int32} (k_a0 : K[a0]? = some (12, 61)) {r' : Int32} (h : j_X12_beside_24 R M a0 x1 x3 x4 = some r') : Rn G mt_X12_beside 24 [(0, .ref a0), (1, .int x1), (3, .int x3), (4, .int x4)] [] (M, L, R, K) (some (.int r')) (M, L, R, K) := by
  unfold j_X12_beside_24 at h
  refine rn_aload_n (q := 0) 0 rfl zd_X12_beside_0.2.2.2.1 ?_
  refine rn_getR zf_X12_49 (Or.inr ⟨_, rfl⟩) k_a0 (zx_12_24 hW k_a0) zd_X12_beside_0.2.2.2.2 ?_
  refine rn_aload_n (q := 0) 0 rfl zd_X12_beside_1.1.1.1.1 ?_
  refine rn_getI zf_X12_212 (Or.inl rfl) k_a0 zd_X12_beside_1.1.1.1.2 ?_
  obtain ⟨hc2, h⟩ := zck_e h
  refine rn_zald (zw_12_24 hW k_a0) hc2 zd_X12_beside_1.1.1.2.1 ?_
  rcases zif_e h with ⟨hc3, h⟩ | ⟨hc3, h⟩
  · refine rn_if_eq_t (tgt := 42) hc3 zd_X12_beside_1.1.1.2.2 rfl ?_
    refine rn_iload 3 rfl zd_X12_beside_1.2.1.1.1 ?_
    rcases zif_e h with ⟨hc4, h⟩ | ⟨hc4, h⟩
    · refine rn_if_ge_t (tgt := 53) hc4 zd_X12_beside_1.2.1.1.2 rfl ?_
      refine rn_iconst (v := 0) zd_X12_beside_1.2.2.2.1 rfl ?_
      exact rn_sub (ls' := [(0, .ref a0)]) [0] rfl (ok_j_X12_beside_54 hW k_a0 h)
    · refine rn_if_ge_f (tgt := 53) hc4 zd_X12_beside_1.2.1.1.2 rfl ?_
      refine rn_iload_n (q := 3) 2 rfl zd_X12_beside_1.2.1.2.1 ?_
      refine rn_iconst (v := 1) zd_X12_beside_1.2.1.2.2 rfl ?_
      refine rn_isub zd_X12_beside_1.2.2.1.1 ?_
      refine rn_goto (tgt := 54) zd_X12_beside_1.2.2.1.2 rfl ?_
      exact rn_sub (ls' := [(0, .ref a0)]) [0] rfl (ok_j_X12_beside_54 hW k_a0 h)
  · refine rn_if_eq_f (tgt := 42) hc3 zd_X12_beside_1.1.1.2.2 rfl ?_
    refine rn_aload_n (q := 0) 0 rfl zd_X12_beside_1.1.2.1.1 ?_
    refine rn_iload_n (q := 1) 1 rfl zd_X12_beside_1.1.2.1.2 ?_
    obtain ⟨r7, h8, h⟩ := zbd_e h
    refine rn_callVi (As := [.int x1]) (rest := []) zl_X12_280 zm_X12_shownOf ⟨by decide, by decide⟩ (ci := 12) rfl rfl (by decide) k_a0 rfl rfl (Nat.le_of_ble_eq_true rfl) zd_X12_beside_1.1.2.2.1 (ok_X12_shownOf hW k_a0 h8) ?_
    cases h
    exact rn_iret zd_X12_beside_1.1.2.2.2 rfl
def f_X12_beside (R : zR) (M : zM) (a0 : Nat) (x1 : Int32) (x2 : Int32) : Option (Int32) :=
  if (x1 + x2) < 0 then (
    j_X12_beside_24 R M a0 x1 (M (R a0 46) (ztn (40 : Int32))) (x1 + x2)
  ) else (
    if (x1 + x2) < (M (R a0 46) (ztn (40 : Int32))) then (
      j_X12_beside_56 R M a0 (x1 + x2)
    ) else (
      j_X12_beside_24 R M a0 x1 (M (R a0 46) (ztn (40 : Int32))) (x1 + x2)
    )
  )
set_option maxRecDepth 4000 in
theorem ok_X12_beside {G : zG} {K : zK} {R : zR} {M : zM} {L : zL} (hW : zWT R K) {a0 : Nat} {x1 : Int32} {x2 : Int32} (k_a0 : K[a0]? = some (12, 61)) {r' : Int32} (h : f_X12_beside R M a0 x1 x2 = some r') : Rm G mt_X12_beside [.ref a0, .int x1, .int x2] (M, L, R, K) (some (.int r')) (M, L, R, K) := by
  refine rm_rn rfl rfl (Nat.le_of_ble_eq_true rfl) ?_
  show Rn G mt_X12_beside 0 [(0, .ref a0), (1, .int x1), (2, .int x2)] [] (M, L, R, K) (some (.int r')) (M, L, R, K)
  unfold f_X12_beside at h
  refine rn_aload_n (q := 0) 0 rfl zd_X12_beside_0.1.1.1.1 ?_
  refine rn_getR zf_X12_104 (Or.inr ⟨_, rfl⟩) k_a0 (zx_12_46 hW k_a0) zd_X12_beside_0.1.1.1.2 ?_
  refine rn_bipush (v := 40) zd_X12_beside_0.1.1.2.1 rfl ?_
  refine rn_iald (zw_12_46 hW k_a0) (by decide) zd_X12_beside_0.1.1.2.2 ?_
  refine rn_istore_n (q := 3) (ls' := [(3, .int (M (R a0 46) (ztn (40 : Int32)))), (0, .ref a0), (1, .int x1), (2, .int x2)]) (by decide) rfl zd_X12_beside_0.1.2.1.1 ?_
  refine rn_iload_n (q := 1) 2 rfl zd_X12_beside_0.1.2.1.2 ?_
  refine rn_iload_n (q := 2) 3 rfl zd_X12_beside_0.1.2.2.1 ?_
  refine rn_iadd zd_X12_beside_0.1.2.2.2 ?_
  refine rn_istore (ls' := [(4, .int (x1 + x2)), (3, .int (M (R a0 46) (ztn (40 : Int32)))), (0, .ref a0), (1, .int x1), (2, .int x2)]) (by decide) rfl zd_X12_beside_0.2.1.1.1 ?_
  refine rn_iload 0 rfl zd_X12_beside_0.2.1.1.2 ?_
  rcases zif_e h with ⟨hc1, h⟩ | ⟨hc1, h⟩
  · refine rn_if_lt_t (tgt := 24) hc1 zd_X12_beside_0.2.1.2.1 rfl ?_
    exact rn_sub (ls' := [(0, .ref a0), (1, .int x1), (3, .int (M (R a0 46) (ztn (40 : Int32)))), (4, .int (x1 + x2))]) [2, 3, 1, 0] rfl (ok_j_X12_beside_24 hW k_a0 h)
  · refine rn_if_lt_f (tgt := 24) hc1 zd_X12_beside_0.2.1.2.1 rfl ?_
    refine rn_iload 0 rfl zd_X12_beside_0.2.1.2.2 ?_
    refine rn_iload_n (q := 3) 1 rfl zd_X12_beside_0.2.2.1.1 ?_
    rcases zif_e h with ⟨hc9, h⟩ | ⟨hc9, h⟩
    · refine rn_icmp_lt_t (tgt := 56) hc9 zd_X12_beside_0.2.2.1.2 rfl ?_
      exact rn_sub (ls' := [(0, .ref a0), (4, .int (x1 + x2))]) [2, 0] rfl (ok_j_X12_beside_56 hW k_a0 h)
    · refine rn_icmp_lt_f (tgt := 56) hc9 zd_X12_beside_0.2.2.1.2 rfl ?_
      exact rn_sub (ls' := [(0, .ref a0), (1, .int x1), (3, .int (M (R a0 46) (ztn (40 : Int32)))), (4, .int (x1 + x2))]) [2, 3, 1, 0] rfl (ok_j_X12_beside_24 hW k_a0 h)
def f_X12_mixed (x0 : Int32) (x1 : Int32) : Option (Int32) :=
  some ((((x0 ^^^ x1) * (1103515245 : Int32)) + (12345 : Int32)) ^^^ (((((x0 ^^^ x1) * (1103515245 : Int32)) + (12345 : Int32)).toUInt32 >>> ((15 : Int32).toUInt32 &&& Int32.toUInt32 31)).toInt32))
set_option maxRecDepth 4000 in
theorem ok_X12_mixed {G : zG} {K : zK} {R : zR} {M : zM} {L : zL} (hW : zWT R K) {x0 : Int32} {x1 : Int32} {r' : Int32} (h : f_X12_mixed x0 x1 = some r') : Rm G mt_X12_mixed [.int x0, .int x1] (M, L, R, K) (some (.int r')) (M, L, R, K) := by
  refine rm_rn rfl rfl (Nat.le_of_ble_eq_true rfl) ?_
  show Rn G mt_X12_mixed 0 [(0, .int x0), (1, .int x1)] [] (M, L, R, K) (some (.int r')) (M, L, R, K)
  unfold f_X12_mixed at h
  refine rn_iload_n (q := 0) 0 rfl zd_X12_mixed_0.1.1.1 ?_
  refine rn_iload_n (q := 1) 1 rfl zd_X12_mixed_0.1.1.2.1 ?_
  refine rn_ixor zd_X12_mixed_0.1.1.2.2 ?_
  refine rn_ldcw (v := 1103515245) zk_X12_283 zd_X12_mixed_0.1.2.1.1 ?_
  refine rn_imul zd_X12_mixed_0.1.2.1.2 ?_
  refine rn_sipush (v := 12345) zd_X12_mixed_0.1.2.2.1 rfl ?_
  refine rn_iadd zd_X12_mixed_0.1.2.2.2 ?_
  refine rn_istore_n (q := 2) (ls' := [(2, .int (((x0 ^^^ x1) * (1103515245 : Int32)) + (12345 : Int32))), (0, .int x0), (1, .int x1)]) (by decide) rfl zd_X12_mixed_0.2.1.1 ?_
  refine rn_iload_n (q := 2) 0 rfl zd_X12_mixed_0.2.1.2.1 ?_
  refine rn_iload_n (q := 2) 0 rfl zd_X12_mixed_0.2.1.2.2 ?_
  refine rn_bipush (v := 15) zd_X12_mixed_0.2.2.1.1 rfl ?_
  refine rn_iushr zd_X12_mixed_0.2.2.1.2 ?_
  refine rn_ixor zd_X12_mixed_0.2.2.2.1 ?_
  cases h
  exact rn_iret zd_X12_mixed_0.2.2.2.2 rfl
def f_X12_lot (x0 : Int32) (x1 : Int32) (x2 : Int32) : Option (Int32) :=
  zbd (f_X12_mixed x0 (25 : Int32)) fun r1 =>
  zbd (f_X12_mixed r1 x1) fun r3 =>
  zck (znz x2) <|
  some (((r3.toUInt32 >>> ((1 : Int32).toUInt32 &&& Int32.toUInt32 31)).toInt32) - ((r3.toUInt32 >>> ((1 : Int32).toUInt32 &&& Int32.toUInt32 31)).toInt32) / x2 * x2)
set_option maxRecDepth 4000 in
theorem ok_X12_lot {G : zG} {K : zK} {R : zR} {M : zM} {L : zL} (hW : zWT R K) {x0 : Int32} {x1 : Int32} {x2 : Int32} {r' : Int32} (h : f_X12_lot x0 x1 x2 = some r') : Rm G mt_X12_lot [.int x0, .int x1, .int x2] (M, L, R, K) (some (.int r')) (M, L, R, K) := by
  refine rm_rn rfl rfl (Nat.le_of_ble_eq_true rfl) ?_
  show Rn G mt_X12_lot 0 [(0, .int x0), (1, .int x1), (2, .int x2)] [] (M, L, R, K) (some (.int r')) (M, L, R, K)
  unfold f_X12_lot at h
  refine rn_iload_n (q := 0) 0 rfl zd_X12_lot_0.1.1.1 ?_
  refine rn_bipush (v := 25) zd_X12_lot_0.1.1.2 rfl ?_
  obtain ⟨r1, h2, h⟩ := zbd_e h
  refine rn_callSi (As := [.int x0, .int (25 : Int32)]) (rest := []) zl_X12_284 zm_X12_mixed ⟨by decide, by decide⟩ rfl rfl (Nat.le_of_ble_eq_true rfl) zd_X12_lot_0.1.2.1 (ok_X12_mixed hW h2) ?_
  refine rn_iload_n (q := 1) 1 rfl zd_X12_lot_0.1.2.2.1 ?_
  obtain ⟨r3, h4, h⟩ := zbd_e h
  refine rn_callSi (As := [.int r1, .int x1]) (rest := []) zl_X12_284 zm_X12_mixed ⟨by decide, by decide⟩ rfl rfl (Nat.le_of_ble_eq_true rfl) zd_X12_lot_0.1.2.2.2 (ok_X12_mixed hW h4) ?_
  refine rn_iconst (v := 1) zd_X12_lot_0.2.1.1 rfl ?_
  refine rn_iushr zd_X12_lot_0.2.1.2 ?_
  refine rn_iload_n (q := 2) 2 rfl zd_X12_lot_0.2.2.1 ?_
  obtain ⟨hc5, h⟩ := zck_e h
  refine rn_irem zd_X12_lot_0.2.2.2.1 (znz_e hc5) ?_
  cases h
  exact rn_iret zd_X12_lot_0.2.2.2.2 rfl
def f_X12_gapOf (R : zR) (M : zM) (a0 : Nat) (x1 : Int32) : Option (Int32) :=
  zbd (f_X12_beside R M a0 x1 (-1 : Int32)) fun r1 =>
  zbd (f_X12_beside R M a0 x1 (1 : Int32)) fun r3 =>
  if 0 ≤ (r1 - r3) then (
    some (r1 - r3)
  ) else (
    some (-(r1 - r3))
  )
set_option maxRecDepth 4000 in
theorem ok_X12_gapOf {G : zG} {K : zK} {R : zR} {M : zM} {L : zL} (hW : zWT R K) {a0 : Nat} {x1 : Int32} (k_a0 : K[a0]? = some (12, 61)) {r' : Int32} (h : f_X12_gapOf R M a0 x1 = some r') : Rm G mt_X12_gapOf [.ref a0, .int x1] (M, L, R, K) (some (.int r')) (M, L, R, K) := by
  refine rm_rn rfl rfl (Nat.le_of_ble_eq_true rfl) ?_
  show Rn G mt_X12_gapOf 0 [(0, .ref a0), (1, .int x1)] [] (M, L, R, K) (some (.int r')) (M, L, R, K)
  unfold f_X12_gapOf at h
  refine rn_aload_n (q := 0) 0 rfl zd_X12_gapOf_0.1.1.1.1 ?_
  refine rn_iload_n (q := 1) 1 rfl zd_X12_gapOf_0.1.1.1.2 ?_
  refine rn_iconst (v := -1) zd_X12_gapOf_0.1.1.2.1 rfl ?_
  obtain ⟨r1, h2, h⟩ := zbd_e h
  refine rn_callVi (As := [.int x1, .int (-1 : Int32)]) (rest := []) zl_X12_287 zm_X12_beside ⟨by decide, by decide⟩ (ci := 12) rfl rfl (by decide) k_a0 rfl rfl (Nat.le_of_ble_eq_true rfl) zd_X12_gapOf_0.1.1.2.2 (ok_X12_beside hW k_a0 h2) ?_
  refine rn_aload_n (q := 0) 0 rfl zd_X12_gapOf_0.1.2.1.1 ?_
  refine rn_iload_n (q := 1) 1 rfl zd_X12_gapOf_0.1.2.1.2 ?_
  refine rn_iconst (v := 1) zd_X12_gapOf_0.1.2.2.1 rfl ?_
  obtain ⟨r3, h4, h⟩ := zbd_e h
  refine rn_callVi (As := [.int x1, .int (1 : Int32)]) (rest := [.int r1]) zl_X12_287 zm_X12_beside ⟨by decide, by decide⟩ (ci := 12) rfl rfl (by decide) k_a0 rfl rfl (Nat.le_of_ble_eq_true rfl) zd_X12_gapOf_0.1.2.2.2 (ok_X12_beside hW k_a0 h4) ?_
  refine rn_isub zd_X12_gapOf_0.2.1.1.1 ?_
  refine rn_istore_n (q := 2) (ls' := [(2, .int (r1 - r3)), (0, .ref a0), (1, .int x1)]) (by decide) rfl zd_X12_gapOf_0.2.1.1.2 ?_
  refine rn_iload_n (q := 2) 0 rfl zd_X12_gapOf_0.2.1.2.1 ?_
  rcases zif_e h with ⟨hc5, h⟩ | ⟨hc5, h⟩
  · refine rn_if_ge_t (tgt := 23) hc5 zd_X12_gapOf_0.2.1.2.2 rfl ?_
    refine rn_iload_n (q := 2) 0 rfl zd_X12_gapOf_0.2.2.2.2 ?_
    cases h
    exact rn_iret zd_X12_gapOf_1 rfl
  · refine rn_if_ge_f (tgt := 23) hc5 zd_X12_gapOf_0.2.1.2.2 rfl ?_
    refine rn_iload_n (q := 2) 0 rfl zd_X12_gapOf_0.2.2.1.1 ?_
    refine rn_ineg zd_X12_gapOf_0.2.2.1.2 ?_
    refine rn_goto (tgt := 24) zd_X12_gapOf_0.2.2.2.1 rfl ?_
    cases h
    exact rn_iret zd_X12_gapOf_1 rfl
abbrev P_X12_tellsBy_164 (G : zG) (K : zK) (R : zR) (L : zL) (a0 : Nat) (x4 : Int32) (x6 : Int32) (r : Option Value) (S' : zS) (v : Int32 × zM) : Prop := Rn G mt_X12_tellsBy 164 [(0, .ref a0), (4, .int x4), (6, .int x6), (7, .int v.1)] [] (v.2, L, R, K) r S'
abbrev Q_X12_tellsBy_164 (G : zG) (K : zK) (R : zR) (L : zL) (a0 : Nat) (x4 : Int32) (x6 : Int32) (r : Option Value) (S' : zS) : (zM) ⊕ (Int32 × zM) ⊕ (zM) → Prop := (Sum.elim (fun e => Rn G mt_X12_tellsBy 228 [] [] (e, L, R, K) r S') (Sum.elim (fun e => Rn G mt_X12_tellsBy 240 [(0, .ref a0), (4, .int x4), (7, .int e.1)] [] (e.2, L, R, K) r S') (fun e => Rn G mt_X12_tellsBy 297 [] [] (e, L, R, K) r S')))
def b_X12_tellsBy_164 (R : zR) (M : zM) (a0 : Nat) (x4 : Int32) (x6 : Int32) (x7 : Int32) : Option ((Int32 × zM) ⊕ ((zM) ⊕ (Int32 × zM) ⊕ (zM))) :=
  if x6 ≤ x7 then (
    some (.inr (.inr (.inr M)))
  ) else (
    zck (zin x7 260) <|
    if (M (R a0 32) (ztn x7)) = 0 then (
      some (.inr (.inr (.inl (x7, M))))
    ) else (
      zck (zin x7 260) <|
      zck (zin x7 260) <|
      zbd2 (f_X12_termOf R M a0 (M (R a0 33) (ztn x7)) (M (R a0 34) (ztn x7))) fun r28 M29 =>
      zck (zin x7 260) <|
      zck (zin x7 260) <|
      zbd2 (f_X12_termOf R M29 a0 (M29 (R a0 34) (ztn x7)) (M29 (R a0 35) (ztn x7))) fun r33 M34 =>
      if (M34 a0 44) = 0 then (
        if r28 < r33 then (
          some (.inr (.inr (.inl (x7, M34))))
        ) else (
          some (.inl ((x7 + 1), M34))
        )
      ) else (
        some (.inr (.inl M34))
      )
    )
  )
set_option maxRecDepth 4000 in
theorem ok_b_X12_tellsBy_164 {G : zG} {K : zK} {R : zR} {M : zM} {L : zL} (hW : zWT R K) {a0 : Nat} {x4 : Int32} {x6 : Int32} {x7 : Int32} (k_a0 : K[a0]? = some (12, 61)) {r : Option Value} {S' : zS} {x : (Int32 × zM) ⊕ ((zM) ⊕ (Int32 × zM) ⊕ (zM))} (h : b_X12_tellsBy_164 R M a0 x4 x6 x7 = some x) (hk : Sum.elim (P_X12_tellsBy_164 G K R L a0 x4 x6 r S') (Q_X12_tellsBy_164 G K R L a0 x4 x6 r S') x) : P_X12_tellsBy_164 G K R L a0 x4 x6 r S' (x7, M) := by
  show Rn G mt_X12_tellsBy 164 [(0, .ref a0), (4, .int x4), (6, .int x6), (7, .int x7)] [] (M, L, R, K) r S'
  unfold b_X12_tellsBy_164 at h
  refine rn_iload 3 rfl zd_X12_tellsBy_6.1.2.1.1 ?_
  refine rn_iload 2 rfl zd_X12_tellsBy_6.1.2.1.2 ?_
  rcases zif_e h with ⟨hc23, h⟩ | ⟨hc23, h⟩
  · refine rn_icmp_ge_t (tgt := 297) hc23 zd_X12_tellsBy_6.1.2.2.1 rfl ?_
    cases h
    exact rn_sub (ls' := []) [] rfl hk
  · refine rn_icmp_ge_f (tgt := 297) hc23 zd_X12_tellsBy_6.1.2.2.1 rfl ?_
    refine rn_aload_n (q := 0) 0 rfl zd_X12_tellsBy_6.1.2.2.2 ?_
    refine rn_getR zf_X12_71 (Or.inr ⟨_, rfl⟩) k_a0 (zx_12_32 hW k_a0) zd_X12_tellsBy_6.2.1.1.1 ?_
    refine rn_iload 3 rfl zd_X12_tellsBy_6.2.1.1.2 ?_
    obtain ⟨hc24, h⟩ := zck_e h
    refine rn_zald (zw_12_32 hW k_a0) hc24 zd_X12_tellsBy_6.2.1.2.1 ?_
    rcases zif_e h with ⟨hc25, h⟩ | ⟨hc25, h⟩
    · refine rn_if_eq_t (tgt := 240) hc25 zd_X12_tellsBy_6.2.1.2.2 rfl ?_
      cases h
      exact rn_sub (ls' := [(0, .ref a0), (4, .int x4), (7, .int x7)]) [0, 1, 3] rfl hk
    · refine rn_if_eq_f (tgt := 240) hc25 zd_X12_tellsBy_6.2.1.2.2 rfl ?_
      refine rn_aload_n (q := 0) 0 rfl zd_X12_tellsBy_6.2.2.1.1 ?_
      refine rn_aload_n (q := 0) 0 rfl zd_X12_tellsBy_6.2.2.1.2 ?_
      refine rn_getR zf_X12_74 (Or.inr ⟨_, rfl⟩) k_a0 (zx_12_33 hW k_a0) zd_X12_tellsBy_6.2.2.2.1 ?_
      refine rn_iload 3 rfl zd_X12_tellsBy_6.2.2.2.2 ?_
      obtain ⟨hc26, h⟩ := zck_e h
      refine rn_iald (zw_12_33 hW k_a0) hc26 zd_X12_tellsBy_7.1.1.1.1 ?_
      refine rn_aload_n (q := 0) 0 rfl zd_X12_tellsBy_7.1.1.1.2 ?_
      refine rn_getR zf_X12_77 (Or.inr ⟨_, rfl⟩) k_a0 (zx_12_34 hW k_a0) zd_X12_tellsBy_7.1.1.2.1 ?_
      refine rn_iload 3 rfl zd_X12_tellsBy_7.1.1.2.2 ?_
      obtain ⟨hc27, h⟩ := zck_e h
      refine rn_iald (zw_12_34 hW k_a0) hc27 zd_X12_tellsBy_7.1.2.1.1 ?_
      obtain ⟨r28, M29, h30, h⟩ := zbd2_e h
      refine rn_callVi (As := [.int (M (R a0 33) (ztn x7)), .int (M (R a0 34) (ztn x7))]) (rest := []) zl_X12_296 zm_X12_termOf ⟨by decide, by decide⟩ (ci := 12) rfl rfl (by decide) k_a0 rfl rfl (Nat.le_of_ble_eq_true rfl) zd_X12_tellsBy_7.1.2.1.2 (ok_X12_termOf hW k_a0 h30) ?_
      refine rn_istore (ls' := [(8, .int r28), (0, .ref a0), (4, .int x4), (6, .int x6), (7, .int x7)]) (by decide) rfl zd_X12_tellsBy_7.1.2.2.1 ?_
      refine rn_aload_n (q := 0) 1 rfl zd_X12_tellsBy_7.1.2.2.2 ?_
      refine rn_aload_n (q := 0) 1 rfl zd_X12_tellsBy_7.2.1.1.1 ?_
      refine rn_getR zf_X12_77 (Or.inr ⟨_, rfl⟩) k_a0 (zx_12_34 hW k_a0) zd_X12_tellsBy_7.2.1.1.2 ?_
      refine rn_iload 4 rfl zd_X12_tellsBy_7.2.1.2.1 ?_
      obtain ⟨hc31, h⟩ := zck_e h
      refine rn_iald (zw_12_34 hW k_a0) hc31 zd_X12_tellsBy_7.2.1.2.2 ?_
      refine rn_aload_n (q := 0) 1 rfl zd_X12_tellsBy_7.2.2.1.1 ?_
      refine rn_getR zf_X12_80 (Or.inr ⟨_, rfl⟩) k_a0 (zx_12_35 hW k_a0) zd_X12_tellsBy_7.2.2.1.2 ?_
      refine rn_iload 4 rfl zd_X12_tellsBy_7.2.2.2.1 ?_
      obtain ⟨hc32, h⟩ := zck_e h
      refine rn_iald (zw_12_35 hW k_a0) hc32 zd_X12_tellsBy_7.2.2.2.2 ?_
      obtain ⟨r33, M34, h35, h⟩ := zbd2_e h
      refine rn_callVi (As := [.int (M29 (R a0 34) (ztn x7)), .int (M29 (R a0 35) (ztn x7))]) (rest := []) zl_X12_296 zm_X12_termOf ⟨by decide, by decide⟩ (ci := 12) rfl rfl (by decide) k_a0 rfl rfl (Nat.le_of_ble_eq_true rfl) zd_X12_tellsBy_8.1.1.1.1 (ok_X12_termOf hW k_a0 h35) ?_
      refine rn_istore (ls' := [(9, .int r33), (8, .int r28), (0, .ref a0), (4, .int x4), (6, .int x6), (7, .int x7)]) (by decide) rfl zd_X12_tellsBy_8.1.1.1.2 ?_
      refine rn_aload_n (q := 0) 2 rfl zd_X12_tellsBy_8.1.1.2.1 ?_
      refine rn_getI zf_X12_272 (Or.inr rfl) k_a0 zd_X12_tellsBy_8.1.1.2.2 ?_
      rcases zif_e h with ⟨hc36, h⟩ | ⟨hc36, h⟩
      · refine rn_if_eq_t (tgt := 230) hc36 zd_X12_tellsBy_8.1.2.1.1 rfl ?_
        refine rn_iload 1 rfl zd_X12_tellsBy_8.1.2.2.2 ?_
        refine rn_iload 0 rfl zd_X12_tellsBy_8.2.1.1.1 ?_
        rcases zif_e h with ⟨hc37, h⟩ | ⟨hc37, h⟩
        · refine rn_icmp_lt_t (tgt := 240) hc37 zd_X12_tellsBy_8.2.1.1.2 rfl ?_
          cases h
          exact rn_sub (ls' := [(0, .ref a0), (4, .int x4), (7, .int x7)]) [2, 3, 5] rfl hk
        · refine rn_icmp_lt_f (tgt := 240) hc37 zd_X12_tellsBy_8.2.1.1.2 rfl ?_
          refine rn_goto (tgt := 291) zd_X12_tellsBy_8.2.1.2.1 rfl ?_
          refine rn_iinc (v := (x7 + 1)) (ls' := [(7, .int (x7 + 1)), (9, .int r33), (8, .int r28), (0, .ref a0), (4, .int x4), (6, .int x6)]) 5 rfl rfl (by decide) rfl zd_X12_tellsBy_10.2.1.1 ?_
          refine rn_goto (tgt := 164) zd_X12_tellsBy_10.2.1.2 rfl ?_
          cases h
          exact rn_sub (ls' := [(0, .ref a0), (4, .int x4), (6, .int x6), (7, .int (x7 + 1))]) [3, 4, 5, 0] rfl hk
      · refine rn_if_eq_f (tgt := 230) hc36 zd_X12_tellsBy_8.1.2.1.1 rfl ?_
        cases h
        exact rn_sub (ls' := []) [] rfl hk
def f_X12_tellsBy (R : zR) (M : zM) (a0 : Nat) (x1 : Int32) (x2 : Int32) (x3 : Int32) (x4 : Int32) : Option (Int32 × zM) :=
  zck (zin (((2 : Int32) * (M a0 18)) + x1) 4) <|
  zck (zin (((2 : Int32) * (M a0 18)) + x1) 4) <|
  if (M (R a0 29) (ztn (((2 : Int32) * (M a0 18)) + x1))) = (M (R a0 30) (ztn (((2 : Int32) * (M a0 18)) + x1))) then (
    if x3 ≤ x4 then (
      some (x3, M)
    ) else (
      some (x4, M)
    )
  ) else (
    zbd (f_X12_beside R M a0 x2 (-1 : Int32)) fun r4 =>
    zlt (zup M (R a0 42) (ztn (0 : Int32)) r4) fun M6 =>
    zbd (f_X12_beside R M6 a0 x2 (1 : Int32)) fun r7 =>
    zlt (zup M6 (R a0 42) (ztn (1 : Int32)) r7) fun M9 =>
    zbd (f_X12_shownOf R M9 a0 x2) fun r10 =>
    zlt (zup M9 (R a0 42) (ztn (2 : Int32)) r10) fun M12 =>
    zbd (f_X12_gapOf R M12 a0 x2) fun r13 =>
    zlt (zup M12 (R a0 42) (ztn (3 : Int32)) r13) fun M15 =>
    zlt (zup M15 (R a0 42) (ztn (4 : Int32)) (M15 (R a0 46) (ztn (42 : Int32)))) fun M16 =>
    zck (zin (M16 a0 18) 2) <|
    zbd (f_X12_lot (M16 (R a0 28) (ztn (M16 a0 18))) (((20 : Int32) * (M16 (R a0 46) (ztn (42 : Int32)))) + x2) (100 : Int32)) fun r18 =>
    zlt (zup M16 (R a0 42) (ztn (5 : Int32)) r18) fun M20 =>
    zlt (zup M20 (R a0 42) (ztn (6 : Int32)) (M20 (R a0 46) (ztn (41 : Int32)))) fun M21 =>
    zlt (zup M21 a0 44 (0 : Int32)) fun M22 =>
    zbd (zloop zN (fun v => b_X12_tellsBy_164 R v.2 a0 x4 (M (R a0 30) (ztn (((2 : Int32) * (M a0 18)) + x1))) v.1) ((M (R a0 29) (ztn (((2 : Int32) * (M a0 18)) + x1))), M22)) fun e38 =>
    Sum.elim (fun e39 =>
      some ((0 : Int32), e39)
    ) (fun e40 =>
      Sum.elim (fun e41 =>
        zck (zin e41.1 260) <|
        zck (zin e41.1 260) <|
        zbd2 (f_X12_termOf R e41.2 a0 (e41.2 (R a0 35) (ztn e41.1)) (e41.2 (R a0 36) (ztn e41.1))) fun r45 M46 =>
        if (M46 a0 44) = 0 then (
          if 0 ≤ r45 then (
            if r45 ≤ x4 then (
              some (r45, M46)
            ) else (
              some (x4, M46)
            )
          ) else (
            some ((0 : Int32), M46)
          )
        ) else (
          some ((0 : Int32), M46)
        )
      ) (fun e42 =>
        some ((0 : Int32), e42)
      ) e40
    ) e38
  )
set_option maxRecDepth 4000 in
theorem ok_X12_tellsBy {G : zG} {K : zK} {R : zR} {M : zM} {L : zL} (hW : zWT R K) {a0 : Nat} {x1 : Int32} {x2 : Int32} {x3 : Int32} {x4 : Int32} (k_a0 : K[a0]? = some (12, 61)) {r' : Int32} {M' : zM} (h : f_X12_tellsBy R M a0 x1 x2 x3 x4 = some (r', M')) : Rm G mt_X12_tellsBy [.ref a0, .int x1, .int x2, .int x3, .int x4] (M, L, R, K) (some (.int r')) (M', L, R, K) := by
  refine rm_rn rfl rfl (Nat.le_of_ble_eq_true rfl) ?_
  show Rn G mt_X12_tellsBy 0 [(0, .ref a0), (1, .int x1), (2, .int x2), (3, .int x3), (4, .int x4)] [] (M, L, R, K) (some (.int r')) (M', L, R, K)
  unfold f_X12_tellsBy at h
  refine rn_aload_n (q := 0) 0 rfl zd_X12_tellsBy_0.1.1.1.1 ?_
  refine rn_getR zf_X12_65 (Or.inr ⟨_, rfl⟩) k_a0 (zx_12_29 hW k_a0) zd_X12_tellsBy_0.1.1.1.2 ?_
  refine rn_iconst (v := 2) zd_X12_tellsBy_0.1.1.2.1 rfl ?_
  refine rn_aload_n (q := 0) 0 rfl zd_X12_tellsBy_0.1.1.2.2 ?_
  refine rn_getI zf_X12_212 (Or.inl rfl) k_a0 zd_X12_tellsBy_0.1.2.1.1 ?_
  refine rn_imul zd_X12_tellsBy_0.1.2.1.2 ?_
  refine rn_iload_n (q := 1) 1 rfl zd_X12_tellsBy_0.1.2.2.1 ?_
  refine rn_iadd zd_X12_tellsBy_0.1.2.2.2 ?_
  obtain ⟨hc1, h⟩ := zck_e h
  refine rn_iald (zw_12_29 hW k_a0) hc1 zd_X12_tellsBy_0.2.1.1.1 ?_
  refine rn_istore (ls' := [(5, .int (M (R a0 29) (ztn (((2 : Int32) * (M a0 18)) + x1)))), (0, .ref a0), (1, .int x1), (2, .int x2), (3, .int x3), (4, .int x4)]) (by decide) rfl zd_X12_tellsBy_0.2.1.1.2 ?_
  refine rn_aload_n (q := 0) 1 rfl zd_X12_tellsBy_0.2.1.2.1 ?_
  refine rn_getR zf_X12_68 (Or.inr ⟨_, rfl⟩) k_a0 (zx_12_30 hW k_a0) zd_X12_tellsBy_0.2.1.2.2 ?_
  refine rn_iconst (v := 2) zd_X12_tellsBy_0.2.2.1.1 rfl ?_
  refine rn_aload_n (q := 0) 1 rfl zd_X12_tellsBy_0.2.2.1.2 ?_
  refine rn_getI zf_X12_212 (Or.inl rfl) k_a0 zd_X12_tellsBy_0.2.2.2.1 ?_
  refine rn_imul zd_X12_tellsBy_0.2.2.2.2 ?_
  refine rn_iload_n (q := 1) 2 rfl zd_X12_tellsBy_1.1.1.1.1 ?_
  refine rn_iadd zd_X12_tellsBy_1.1.1.1.2 ?_
  obtain ⟨hc2, h⟩ := zck_e h
  refine rn_iald (zw_12_30 hW k_a0) hc2 zd_X12_tellsBy_1.1.1.2.1 ?_
  refine rn_istore (ls' := [(6, .int (M (R a0 30) (ztn (((2 : Int32) * (M a0 18)) + x1)))), (5, .int (M (R a0 29) (ztn (((2 : Int32) * (M a0 18)) + x1)))), (0, .ref a0), (1, .int x1), (2, .int x2), (3, .int x3), (4, .int x4)]) (by decide) rfl zd_X12_tellsBy_1.1.1.2.2 ?_
  refine rn_iload 1 rfl zd_X12_tellsBy_1.1.2.1.1 ?_
  refine rn_iload 0 rfl zd_X12_tellsBy_1.1.2.1.2 ?_
  rcases zif_e h with ⟨hc3, h⟩ | ⟨hc3, h⟩
  · refine rn_icmp_ne_f (tgt := 50) hc3 zd_X12_tellsBy_1.1.2.2.1 rfl ?_
    refine rn_iload_n (q := 3) 5 rfl zd_X12_tellsBy_1.1.2.2.2 ?_
    refine rn_iload 6 rfl zd_X12_tellsBy_1.2.1.1.1 ?_
    rcases zif_e h with ⟨hc51, h⟩ | ⟨hc51, h⟩
    · refine rn_icmp_le_t (tgt := 48) hc51 zd_X12_tellsBy_1.2.1.1.2 rfl ?_
      refine rn_iload_n (q := 3) 5 rfl zd_X12_tellsBy_1.2.2.1.1 ?_
      cases h
      exact rn_iret zd_X12_tellsBy_1.2.2.1.2 rfl
    · refine rn_icmp_le_f (tgt := 48) hc51 zd_X12_tellsBy_1.2.1.1.2 rfl ?_
      refine rn_iload 6 rfl zd_X12_tellsBy_1.2.1.2.1 ?_
      refine rn_goto (tgt := 49) zd_X12_tellsBy_1.2.1.2.2 rfl ?_
      cases h
      exact rn_iret zd_X12_tellsBy_1.2.2.1.2 rfl
  · refine rn_icmp_ne_t (tgt := 50) hc3 zd_X12_tellsBy_1.1.2.2.1 rfl ?_
    refine rn_aload_n (q := 0) 2 rfl zd_X12_tellsBy_1.2.2.2.1 ?_
    refine rn_getR zf_X12_95 (Or.inr ⟨_, rfl⟩) k_a0 (zx_12_42 hW k_a0) zd_X12_tellsBy_1.2.2.2.2 ?_
    refine rn_iconst (v := 0) zd_X12_tellsBy_2.1.1.1.1 rfl ?_
    refine rn_aload_n (q := 0) 2 rfl zd_X12_tellsBy_2.1.1.1.2 ?_
    refine rn_iload_n (q := 2) 4 rfl zd_X12_tellsBy_2.1.1.2.1 ?_
    refine rn_iconst (v := -1) zd_X12_tellsBy_2.1.1.2.2 rfl ?_
    obtain ⟨r4, h5, h⟩ := zbd_e h
    refine rn_callVi (As := [.int x2, .int (-1 : Int32)]) (rest := [.int (0 : Int32), .ref (R a0 42)]) zl_X12_287 zm_X12_beside ⟨by decide, by decide⟩ (ci := 12) rfl rfl (by decide) k_a0 rfl rfl (Nat.le_of_ble_eq_true rfl) zd_X12_tellsBy_2.1.2.1.1 (ok_X12_beside hW k_a0 h5) ?_
    obtain ⟨M6, hM6, h⟩ := zlt_e h
    refine rn_iast hM6 (zw_12_42 hW k_a0) (by decide) zd_X12_tellsBy_2.1.2.1.2 ?_
    refine rn_aload_n (q := 0) 2 rfl zd_X12_tellsBy_2.1.2.2.1 ?_
    refine rn_getR zf_X12_95 (Or.inr ⟨_, rfl⟩) k_a0 (zx_12_42 hW k_a0) zd_X12_tellsBy_2.1.2.2.2 ?_
    refine rn_iconst (v := 1) zd_X12_tellsBy_2.2.1.1.1 rfl ?_
    refine rn_aload_n (q := 0) 2 rfl zd_X12_tellsBy_2.2.1.1.2 ?_
    refine rn_iload_n (q := 2) 4 rfl zd_X12_tellsBy_2.2.1.2.1 ?_
    refine rn_iconst (v := 1) zd_X12_tellsBy_2.2.1.2.2 rfl ?_
    obtain ⟨r7, h8, h⟩ := zbd_e h
    refine rn_callVi (As := [.int x2, .int (1 : Int32)]) (rest := [.int (1 : Int32), .ref (R a0 42)]) zl_X12_287 zm_X12_beside ⟨by decide, by decide⟩ (ci := 12) rfl rfl (by decide) k_a0 rfl rfl (Nat.le_of_ble_eq_true rfl) zd_X12_tellsBy_2.2.2.1.1 (ok_X12_beside hW k_a0 h8) ?_
    obtain ⟨M9, hM9, h⟩ := zlt_e h
    refine rn_iast hM9 (zw_12_42 hW k_a0) (by decide) zd_X12_tellsBy_2.2.2.1.2 ?_
    refine rn_aload_n (q := 0) 2 rfl zd_X12_tellsBy_2.2.2.2.1 ?_
    refine rn_getR zf_X12_95 (Or.inr ⟨_, rfl⟩) k_a0 (zx_12_42 hW k_a0) zd_X12_tellsBy_2.2.2.2.2 ?_
    refine rn_iconst (v := 2) zd_X12_tellsBy_3.1.1.1.1 rfl ?_
    refine rn_aload_n (q := 0) 2 rfl zd_X12_tellsBy_3.1.1.1.2 ?_
    refine rn_iload_n (q := 2) 4 rfl zd_X12_tellsBy_3.1.1.2.1 ?_
    obtain ⟨r10, h11, h⟩ := zbd_e h
    refine rn_callVi (As := [.int x2]) (rest := [.int (2 : Int32), .ref (R a0 42)]) zl_X12_280 zm_X12_shownOf ⟨by decide, by decide⟩ (ci := 12) rfl rfl (by decide) k_a0 rfl rfl (Nat.le_of_ble_eq_true rfl) zd_X12_tellsBy_3.1.1.2.2 (ok_X12_shownOf hW k_a0 h11) ?_
    obtain ⟨M12, hM12, h⟩ := zlt_e h
    refine rn_iast hM12 (zw_12_42 hW k_a0) (by decide) zd_X12_tellsBy_3.1.2.1.1 ?_
    refine rn_aload_n (q := 0) 2 rfl zd_X12_tellsBy_3.1.2.1.2 ?_
    refine rn_getR zf_X12_95 (Or.inr ⟨_, rfl⟩) k_a0 (zx_12_42 hW k_a0) zd_X12_tellsBy_3.1.2.2.1 ?_
    refine rn_iconst (v := 3) zd_X12_tellsBy_3.1.2.2.2 rfl ?_
    refine rn_aload_n (q := 0) 2 rfl zd_X12_tellsBy_3.2.1.1.1 ?_
    refine rn_iload_n (q := 2) 4 rfl zd_X12_tellsBy_3.2.1.1.2 ?_
    obtain ⟨r13, h14, h⟩ := zbd_e h
    refine rn_callVi (As := [.int x2]) (rest := [.int (3 : Int32), .ref (R a0 42)]) zl_X12_290 zm_X12_gapOf ⟨by decide, by decide⟩ (ci := 12) rfl rfl (by decide) k_a0 rfl rfl (Nat.le_of_ble_eq_true rfl) zd_X12_tellsBy_3.2.1.2.1 (ok_X12_gapOf hW k_a0 h14) ?_
    obtain ⟨M15, hM15, h⟩ := zlt_e h
    refine rn_iast hM15 (zw_12_42 hW k_a0) (by decide) zd_X12_tellsBy_3.2.1.2.2 ?_
    refine rn_aload_n (q := 0) 2 rfl zd_X12_tellsBy_3.2.2.1.1 ?_
    refine rn_getR zf_X12_95 (Or.inr ⟨_, rfl⟩) k_a0 (zx_12_42 hW k_a0) zd_X12_tellsBy_3.2.2.1.2 ?_
    refine rn_iconst (v := 4) zd_X12_tellsBy_3.2.2.2.1 rfl ?_
    refine rn_aload_n (q := 0) 2 rfl zd_X12_tellsBy_3.2.2.2.2 ?_
    refine rn_getR zf_X12_104 (Or.inr ⟨_, rfl⟩) k_a0 (zx_12_46 hW k_a0) zd_X12_tellsBy_4.1.1.1.1 ?_
    refine rn_bipush (v := 42) zd_X12_tellsBy_4.1.1.1.2 rfl ?_
    refine rn_iald (zw_12_46 hW k_a0) (by decide) zd_X12_tellsBy_4.1.1.2.1 ?_
    obtain ⟨M16, hM16, h⟩ := zlt_e h
    refine rn_iast hM16 (zw_12_42 hW k_a0) (by decide) zd_X12_tellsBy_4.1.1.2.2 ?_
    refine rn_aload_n (q := 0) 2 rfl zd_X12_tellsBy_4.1.2.1.1 ?_
    refine rn_getR zf_X12_95 (Or.inr ⟨_, rfl⟩) k_a0 (zx_12_42 hW k_a0) zd_X12_tellsBy_4.1.2.1.2 ?_
    refine rn_iconst (v := 5) zd_X12_tellsBy_4.1.2.2.1 rfl ?_
    refine rn_aload_n (q := 0) 2 rfl zd_X12_tellsBy_4.1.2.2.2 ?_
    refine rn_getR zf_X12_62 (Or.inr ⟨_, rfl⟩) k_a0 (zx_12_28 hW k_a0) zd_X12_tellsBy_4.2.1.1.1 ?_
    refine rn_aload_n (q := 0) 2 rfl zd_X12_tellsBy_4.2.1.1.2 ?_
    refine rn_getI zf_X12_212 (Or.inl rfl) k_a0 zd_X12_tellsBy_4.2.1.2.1 ?_
    obtain ⟨hc17, h⟩ := zck_e h
    refine rn_iald (zw_12_28 hW k_a0) hc17 zd_X12_tellsBy_4.2.1.2.2 ?_
    refine rn_bipush (v := 20) zd_X12_tellsBy_4.2.2.1.1 rfl ?_
    refine rn_aload_n (q := 0) 2 rfl zd_X12_tellsBy_4.2.2.1.2 ?_
    refine rn_getR zf_X12_104 (Or.inr ⟨_, rfl⟩) k_a0 (zx_12_46 hW k_a0) zd_X12_tellsBy_4.2.2.2.1 ?_
    refine rn_bipush (v := 42) zd_X12_tellsBy_4.2.2.2.2 rfl ?_
    refine rn_iald (zw_12_46 hW k_a0) (by decide) zd_X12_tellsBy_5.1.1.1.1 ?_
    refine rn_imul zd_X12_tellsBy_5.1.1.1.2 ?_
    refine rn_iload_n (q := 2) 4 rfl zd_X12_tellsBy_5.1.1.2.1 ?_
    refine rn_iadd zd_X12_tellsBy_5.1.1.2.2 ?_
    refine rn_bipush (v := 100) zd_X12_tellsBy_5.1.2.1.1 rfl ?_
    obtain ⟨r18, h19, h⟩ := zbd_e h
    refine rn_callSi (As := [.int (M16 (R a0 28) (ztn (M16 a0 18))), .int (((20 : Int32) * (M16 (R a0 46) (ztn (42 : Int32)))) + x2), .int (100 : Int32)]) (rest := [.int (5 : Int32), .ref (R a0 42)]) zl_X12_293 zm_X12_lot ⟨by decide, by decide⟩ rfl rfl (Nat.le_of_ble_eq_true rfl) zd_X12_tellsBy_5.1.2.1.2 (ok_X12_lot hW h19) ?_
    obtain ⟨M20, hM20, h⟩ := zlt_e h
    refine rn_iast hM20 (zw_12_42 hW k_a0) (by decide) zd_X12_tellsBy_5.1.2.2.1 ?_
    refine rn_aload_n (q := 0) 2 rfl zd_X12_tellsBy_5.1.2.2.2 ?_
    refine rn_getR zf_X12_95 (Or.inr ⟨_, rfl⟩) k_a0 (zx_12_42 hW k_a0) zd_X12_tellsBy_5.2.1.1.1 ?_
    refine rn_bipush (v := 6) zd_X12_tellsBy_5.2.1.1.2 rfl ?_
    refine rn_aload_n (q := 0) 2 rfl zd_X12_tellsBy_5.2.1.2.1 ?_
    refine rn_getR zf_X12_104 (Or.inr ⟨_, rfl⟩) k_a0 (zx_12_46 hW k_a0) zd_X12_tellsBy_5.2.1.2.2 ?_
    refine rn_bipush (v := 41) zd_X12_tellsBy_5.2.2.1.1 rfl ?_
    refine rn_iald (zw_12_46 hW k_a0) (by decide) zd_X12_tellsBy_5.2.2.1.2 ?_
    obtain ⟨M21, hM21, h⟩ := zlt_e h
    refine rn_iast hM21 (zw_12_42 hW k_a0) (by decide) zd_X12_tellsBy_5.2.2.2.1 ?_
    refine rn_aload_n (q := 0) 2 rfl zd_X12_tellsBy_5.2.2.2.2 ?_
    refine rn_iconst (v := 0) zd_X12_tellsBy_6.1.1.1.1 rfl ?_
    obtain ⟨M22, hM22, h⟩ := zlt_e h
    refine rn_putB (Or.inl rfl) hM22 zf_X12_272 k_a0 zd_X12_tellsBy_6.1.1.1.2 ?_
    refine rn_iload 1 rfl zd_X12_tellsBy_6.1.1.2.1 ?_
    refine rn_istore (ls' := [(7, .int (M (R a0 29) (ztn (((2 : Int32) * (M a0 18)) + x1)))), (6, .int (M (R a0 30) (ztn (((2 : Int32) * (M a0 18)) + x1)))), (5, .int (M (R a0 29) (ztn (((2 : Int32) * (M a0 18)) + x1)))), (0, .ref a0), (1, .int x1), (2, .int x2), (3, .int x3), (4, .int x4)]) (by decide) rfl zd_X12_tellsBy_6.1.1.2.2 ?_
    obtain ⟨e38, he38, h⟩ := zbd_e h
    refine rn_sub (ls' := [(0, .ref a0), (4, .int x4), (6, .int (M (R a0 30) (ztn (((2 : Int32) * (M a0 18)) + x1)))), (7, .int (M (R a0 29) (ztn (((2 : Int32) * (M a0 18)) + x1))))]) [3, 7, 1, 0] rfl (zloop_ok (P := P_X12_tellsBy_164 G K R L a0 x4 (M (R a0 30) (ztn (((2 : Int32) * (M a0 18)) + x1))) (some (.int r')) (M', L, R, K)) (Q := Q_X12_tellsBy_164 G K R L a0 x4 (M (R a0 30) (ztn (((2 : Int32) * (M a0 18)) + x1))) (some (.int r')) (M', L, R, K)) (fun v x hx hq => ok_b_X12_tellsBy_164 hW k_a0 hx hq) _ _ _ he38 ?_)
    rcases e38 with e39 | e40
    · rw [Sum.elim_inl] at h
      show Rn G mt_X12_tellsBy 228 [] [] (e39, L, R, K) (some (.int r')) (M', L, R, K)
      refine rn_iconst (v := 0) zd_X12_tellsBy_8.1.2.1.2 rfl ?_
      cases h
      exact rn_iret zd_X12_tellsBy_8.1.2.2.1 rfl
    · rw [Sum.elim_inr] at h
      rcases e40 with e41 | e42
      · rw [Sum.elim_inl] at h
        show Rn G mt_X12_tellsBy 240 [(0, .ref a0), (4, .int x4), (7, .int e41.1)] [] (e41.2, L, R, K) (some (.int r')) (M', L, R, K)
        refine rn_aload_n (q := 0) 0 rfl zd_X12_tellsBy_8.2.1.2.2 ?_
        refine rn_aload_n (q := 0) 0 rfl zd_X12_tellsBy_8.2.2.1.1 ?_
        refine rn_getR zf_X12_80 (Or.inr ⟨_, rfl⟩) k_a0 (zx_12_35 hW k_a0) zd_X12_tellsBy_8.2.2.1.2 ?_
        refine rn_iload 2 rfl zd_X12_tellsBy_8.2.2.2.1 ?_
        obtain ⟨hc43, h⟩ := zck_e h
        refine rn_iald (zw_12_35 hW k_a0) hc43 zd_X12_tellsBy_8.2.2.2.2 ?_
        refine rn_aload_n (q := 0) 0 rfl zd_X12_tellsBy_9.1.1.1.1 ?_
        refine rn_getR zf_X12_83 (Or.inr ⟨_, rfl⟩) k_a0 (zx_12_36 hW k_a0) zd_X12_tellsBy_9.1.1.1.2 ?_
        refine rn_iload 2 rfl zd_X12_tellsBy_9.1.1.2.1 ?_
        obtain ⟨hc44, h⟩ := zck_e h
        refine rn_iald (zw_12_36 hW k_a0) hc44 zd_X12_tellsBy_9.1.1.2.2 ?_
        obtain ⟨r45, M46, h47, h⟩ := zbd2_e h
        refine rn_callVi (As := [.int (e41.2 (R a0 35) (ztn e41.1)), .int (e41.2 (R a0 36) (ztn e41.1))]) (rest := []) zl_X12_296 zm_X12_termOf ⟨by decide, by decide⟩ (ci := 12) rfl rfl (by decide) k_a0 rfl rfl (Nat.le_of_ble_eq_true rfl) zd_X12_tellsBy_9.1.2.1.1 (ok_X12_termOf hW k_a0 h47) ?_
        refine rn_istore (ls' := [(8, .int r45), (0, .ref a0), (4, .int x4), (7, .int e41.1)]) (by decide) rfl zd_X12_tellsBy_9.1.2.1.2 ?_
        refine rn_aload_n (q := 0) 1 rfl zd_X12_tellsBy_9.1.2.2.1 ?_
        refine rn_getI zf_X12_272 (Or.inr rfl) k_a0 zd_X12_tellsBy_9.1.2.2.2 ?_
        rcases zif_e h with ⟨hc48, h⟩ | ⟨hc48, h⟩
        · refine rn_if_ne_f (tgt := 272) hc48 zd_X12_tellsBy_9.2.1.1.1 rfl ?_
          refine rn_iload 0 rfl zd_X12_tellsBy_9.2.1.1.2 ?_
          rcases zif_e h with ⟨hc49, h⟩ | ⟨hc49, h⟩
          · refine rn_if_ge_t (tgt := 276) hc49 zd_X12_tellsBy_9.2.1.2.1 rfl ?_
            refine rn_iload 0 rfl zd_X12_tellsBy_9.2.2.1.2 ?_
            refine rn_iload 2 rfl zd_X12_tellsBy_9.2.2.2.1 ?_
            rcases zif_e h with ⟨hc50, h⟩ | ⟨hc50, h⟩
            · refine rn_icmp_le_t (tgt := 288) hc50 zd_X12_tellsBy_9.2.2.2.2 rfl ?_
              refine rn_iload 0 rfl zd_X12_tellsBy_10.1.2.1 ?_
              cases h
              exact rn_iret zd_X12_tellsBy_10.1.2.2 rfl
            · refine rn_icmp_le_f (tgt := 288) hc50 zd_X12_tellsBy_9.2.2.2.2 rfl ?_
              refine rn_iload 2 rfl zd_X12_tellsBy_10.1.1.1 ?_
              refine rn_goto (tgt := 290) zd_X12_tellsBy_10.1.1.2 rfl ?_
              cases h
              exact rn_iret zd_X12_tellsBy_10.1.2.2 rfl
          · refine rn_if_ge_f (tgt := 276) hc49 zd_X12_tellsBy_9.2.1.2.1 rfl ?_
            refine rn_iconst (v := 0) zd_X12_tellsBy_9.2.1.2.2 rfl ?_
            refine rn_goto (tgt := 290) zd_X12_tellsBy_9.2.2.1.1 rfl ?_
            cases h
            exact rn_iret zd_X12_tellsBy_10.1.2.2 rfl
        · refine rn_if_ne_t (tgt := 272) hc48 zd_X12_tellsBy_9.2.1.1.1 rfl ?_
          refine rn_iconst (v := 0) zd_X12_tellsBy_9.2.1.2.2 rfl ?_
          refine rn_goto (tgt := 290) zd_X12_tellsBy_9.2.2.1.1 rfl ?_
          cases h
          exact rn_iret zd_X12_tellsBy_10.1.2.2 rfl
      · rw [Sum.elim_inr] at h
        show Rn G mt_X12_tellsBy 297 [] [] (e42, L, R, K) (some (.int r')) (M', L, R, K)
        refine rn_iconst (v := 0) zd_X12_tellsBy_10.2.2.1 rfl ?_
        cases h
        exact rn_iret zd_X12_tellsBy_10.2.2.2 rfl
def f_X12_wanted (R : zR) (M : zM) (a0 : Nat) (x1 : Int32) : Option (Int32 × zM) :=
  zbd (f_X12_gapOf R M a0 x1) fun r1 =>
  zbd (f_X12_shownOf R M a0 x1) fun r3 =>
  zbd2 (f_X12_tellsBy R M a0 (0 : Int32) x1 r1 r3) fun r5 M6 =>
  some (r5, M6)
set_option maxRecDepth 4000 in
theorem ok_X12_wanted {G : zG} {K : zK} {R : zR} {M : zM} {L : zL} (hW : zWT R K) {a0 : Nat} {x1 : Int32} (k_a0 : K[a0]? = some (12, 61)) {r' : Int32} {M' : zM} (h : f_X12_wanted R M a0 x1 = some (r', M')) : Rm G mt_X12_wanted [.ref a0, .int x1] (M, L, R, K) (some (.int r')) (M', L, R, K) := by
  refine rm_rn rfl rfl (Nat.le_of_ble_eq_true rfl) ?_
  show Rn G mt_X12_wanted 0 [(0, .ref a0), (1, .int x1)] [] (M, L, R, K) (some (.int r')) (M', L, R, K)
  unfold f_X12_wanted at h
  refine rn_aload_n (q := 0) 0 rfl zd_X12_wanted_0.1.1.1 ?_
  refine rn_iconst (v := 0) zd_X12_wanted_0.1.1.2 rfl ?_
  refine rn_iload_n (q := 1) 1 rfl zd_X12_wanted_0.1.2.1 ?_
  refine rn_aload_n (q := 0) 0 rfl zd_X12_wanted_0.1.2.2.1 ?_
  refine rn_iload_n (q := 1) 1 rfl zd_X12_wanted_0.1.2.2.2 ?_
  obtain ⟨r1, h2, h⟩ := zbd_e h
  refine rn_callVi (As := [.int x1]) (rest := [.int x1, .int (0 : Int32), .ref a0]) zl_X12_290 zm_X12_gapOf ⟨by decide, by decide⟩ (ci := 12) rfl rfl (by decide) k_a0 rfl rfl (Nat.le_of_ble_eq_true rfl) zd_X12_wanted_0.2.1.1 (ok_X12_gapOf hW k_a0 h2) ?_
  refine rn_aload_n (q := 0) 0 rfl zd_X12_wanted_0.2.1.2.1 ?_
  refine rn_iload_n (q := 1) 1 rfl zd_X12_wanted_0.2.1.2.2 ?_
  obtain ⟨r3, h4, h⟩ := zbd_e h
  refine rn_callVi (As := [.int x1]) (rest := [.int r1, .int x1, .int (0 : Int32), .ref a0]) zl_X12_280 zm_X12_shownOf ⟨by decide, by decide⟩ (ci := 12) rfl rfl (by decide) k_a0 rfl rfl (Nat.le_of_ble_eq_true rfl) zd_X12_wanted_0.2.2.1 (ok_X12_shownOf hW k_a0 h4) ?_
  obtain ⟨r5, M6, h7, h⟩ := zbd2_e h
  refine rn_callVi (As := [.int (0 : Int32), .int x1, .int r1, .int r3]) (rest := []) zl_X12_299 zm_X12_tellsBy ⟨by decide, by decide⟩ (ci := 12) rfl rfl (by decide) k_a0 rfl rfl (Nat.le_of_ble_eq_true rfl) zd_X12_wanted_0.2.2.2.1 (ok_X12_tellsBy hW k_a0 h7) ?_
  cases h
  exact rn_iret zd_X12_wanted_0.2.2.2.2 rfl
abbrev P_X12_earnAll_2 (G : zG) (K : zK) (R : zR) (L : zL) (a0 : Nat) (r : Option Value) (S' : zS) (v : Int32 × zM) : Prop := Rn G mt_X12_earnAll 2 [(0, .ref a0), (1, .int v.1)] [] (v.2, L, R, K) r S'
abbrev Q_X12_earnAll_2 (G : zG) (K : zK) (R : zR) (L : zL) (a0 : Nat) (r : Option Value) (S' : zS) : (zM) → Prop := (fun e => Rn G mt_X12_earnAll 38 [] [] (e, L, R, K) r S')
def b_X12_earnAll_2 (R : zR) (M : zM) (a0 : Nat) (x1 : Int32) : Option ((Int32 × zM) ⊕ ((zM))) :=
  if (M (R a0 46) (ztn (40 : Int32))) ≤ x1 then (
    some (.inr M)
  ) else (
    zck (zin x1 60) <|
    zbd2 (f_X12_tellsBy R M a0 (1 : Int32) x1 (0 : Int32) (999 : Int32)) fun r3 M4 =>
    zck (zin x1 60) <|
    zlt (zup M4 (R a0 46) (ztn x1) ((M (R a0 46) (ztn x1)) + r3)) fun M7 =>
    some (.inl ((x1 + 1), M7))
  )
set_option maxRecDepth 4000 in
theorem ok_b_X12_earnAll_2 {G : zG} {K : zK} {R : zR} {M : zM} {L : zL} (hW : zWT R K) {a0 : Nat} {x1 : Int32} (k_a0 : K[a0]? = some (12, 61)) {r : Option Value} {S' : zS} {x : (Int32 × zM) ⊕ ((zM))} (h : b_X12_earnAll_2 R M a0 x1 = some x) (hk : Sum.elim (P_X12_earnAll_2 G K R L a0 r S') (Q_X12_earnAll_2 G K R L a0 r S') x) : P_X12_earnAll_2 G K R L a0 r S' (x1, M) := by
  show Rn G mt_X12_earnAll 2 [(0, .ref a0), (1, .int x1)] [] (M, L, R, K) r S'
  unfold b_X12_earnAll_2 at h
  refine rn_iload_n (q := 1) 1 rfl zd_X12_earnAll_0.1.1.2.1 ?_
  refine rn_aload_n (q := 0) 0 rfl zd_X12_earnAll_0.1.1.2.2 ?_
  refine rn_getR zf_X12_104 (Or.inr ⟨_, rfl⟩) k_a0 (zx_12_46 hW k_a0) zd_X12_earnAll_0.1.2.1.1 ?_
  refine rn_bipush (v := 40) zd_X12_earnAll_0.1.2.1.2 rfl ?_
  refine rn_iald (zw_12_46 hW k_a0) (by decide) zd_X12_earnAll_0.1.2.2.1 ?_
  rcases zif_e h with ⟨hc1, h⟩ | ⟨hc1, h⟩
  · refine rn_icmp_ge_t (tgt := 38) hc1 zd_X12_earnAll_0.1.2.2.2 rfl ?_
    cases h
    exact rn_sub (ls' := []) [] rfl hk
  · refine rn_icmp_ge_f (tgt := 38) hc1 zd_X12_earnAll_0.1.2.2.2 rfl ?_
    refine rn_aload_n (q := 0) 0 rfl zd_X12_earnAll_0.2.1.1.1 ?_
    refine rn_getR zf_X12_104 (Or.inr ⟨_, rfl⟩) k_a0 (zx_12_46 hW k_a0) zd_X12_earnAll_0.2.1.1.2 ?_
    refine rn_iload_n (q := 1) 1 rfl zd_X12_earnAll_0.2.1.2.1 ?_
    refine rn_dup2 zd_X12_earnAll_0.2.1.2.2 rfl rfl ?_
    obtain ⟨hc2, h⟩ := zck_e h
    refine rn_iald (zw_12_46 hW k_a0) hc2 zd_X12_earnAll_0.2.2.1.1 ?_
    refine rn_aload_n (q := 0) 0 rfl zd_X12_earnAll_0.2.2.1.2 ?_
    refine rn_iconst (v := 1) zd_X12_earnAll_0.2.2.2.1 rfl ?_
    refine rn_iload_n (q := 1) 1 rfl zd_X12_earnAll_0.2.2.2.2 ?_
    refine rn_iconst (v := 0) zd_X12_earnAll_1.1.1.1 rfl ?_
    refine rn_sipush (v := 999) zd_X12_earnAll_1.1.1.2 rfl ?_
    obtain ⟨r3, M4, h5, h⟩ := zbd2_e h
    refine rn_callVi (As := [.int (1 : Int32), .int x1, .int (0 : Int32), .int (999 : Int32)]) (rest := [.int (M (R a0 46) (ztn x1)), .int x1, .ref (R a0 46)]) zl_X12_299 zm_X12_tellsBy ⟨by decide, by decide⟩ (ci := 12) rfl rfl (by decide) k_a0 rfl rfl (Nat.le_of_ble_eq_true rfl) zd_X12_earnAll_1.1.2.1 (ok_X12_tellsBy hW k_a0 h5) ?_
    refine rn_iadd zd_X12_earnAll_1.1.2.2 ?_
    obtain ⟨hc6, h⟩ := zck_e h
    obtain ⟨M7, hM7, h⟩ := zlt_e h
    refine rn_iast hM7 (zw_12_46 hW k_a0) hc6 zd_X12_earnAll_1.2.1.1 ?_
    refine rn_iinc (v := (x1 + 1)) (ls' := [(1, .int (x1 + 1)), (0, .ref a0)]) 1 rfl rfl (by decide) rfl zd_X12_earnAll_1.2.1.2 ?_
    refine rn_goto (tgt := 2) zd_X12_earnAll_1.2.2.1 rfl ?_
    cases h
    exact rn_sub (ls' := [(0, .ref a0), (1, .int (x1 + 1))]) [1, 0] rfl hk
def f_X12_earnAll (R : zR) (M : zM) (a0 : Nat) : Option (zM) :=
  zbd (zloop zN (fun v => b_X12_earnAll_2 R v.2 a0 v.1) ((0 : Int32), M)) fun e8 =>
  some e8
set_option maxRecDepth 4000 in
theorem ok_X12_earnAll {G : zG} {K : zK} {R : zR} {M : zM} {L : zL} (hW : zWT R K) {a0 : Nat} (k_a0 : K[a0]? = some (12, 61)) {M' : zM} (h : f_X12_earnAll R M a0 = some M') : Rm G mt_X12_earnAll [.ref a0] (M, L, R, K) none (M', L, R, K) := by
  refine rm_rn rfl rfl (Nat.le_of_ble_eq_true rfl) ?_
  show Rn G mt_X12_earnAll 0 [(0, .ref a0)] [] (M, L, R, K) none (M', L, R, K)
  unfold f_X12_earnAll at h
  refine rn_iconst (v := 0) zd_X12_earnAll_0.1.1.1.1 rfl ?_
  refine rn_istore_n (q := 1) (ls' := [(1, .int (0 : Int32)), (0, .ref a0)]) (by decide) rfl zd_X12_earnAll_0.1.1.1.2 ?_
  obtain ⟨e8, he8, h⟩ := zbd_e h
  refine rn_sub (ls' := [(0, .ref a0), (1, .int (0 : Int32))]) [1, 0] rfl (zloop_ok (P := P_X12_earnAll_2 G K R L a0 none (M', L, R, K)) (Q := Q_X12_earnAll_2 G K R L a0 none (M', L, R, K)) (fun v x hx hq => ok_b_X12_earnAll_2 hW k_a0 hx hq) _ _ _ he8 ?_)
  show Rn G mt_X12_earnAll 38 [] [] (e8, L, R, K) none (M', L, R, K)
  cases h
  exact rn_vret zd_X12_earnAll_1.2.2.2 rfl
def f_X12_pays (R : zR) (M : zM) (a0 : Nat) (x1 : Int32) (x2 : Int32) : Option (zM) :=
  zck (zin x1 60) <|
  zck (zin x1 60) <|
  zlt (zup M (R a0 46) (ztn x1) ((M (R a0 46) (ztn x1)) - x2)) fun M3 =>
  zlt (zup M3 (R a0 46) (ztn (41 : Int32)) ((M3 (R a0 46) (ztn (41 : Int32))) + x2)) fun M4 =>
  zck (zin ((20 : Int32) + x1) 60) <|
  zlt (zup M4 (R a0 46) (ztn ((20 : Int32) + x1)) x2) fun M6 =>
  zck (zin ((30 : Int32) + x1) 60) <|
  zck (zin ((30 : Int32) + x1) 60) <|
  zlt (zup M6 (R a0 46) (ztn ((30 : Int32) + x1)) ((M6 (R a0 46) (ztn ((30 : Int32) + x1))) + x2)) fun M9 =>
  some M9
set_option maxRecDepth 4000 in
theorem ok_X12_pays {G : zG} {K : zK} {R : zR} {M : zM} {L : zL} (hW : zWT R K) {a0 : Nat} {x1 : Int32} {x2 : Int32} (k_a0 : K[a0]? = some (12, 61)) {M' : zM} (h : f_X12_pays R M a0 x1 x2 = some M') : Rm G mt_X12_pays [.ref a0, .int x1, .int x2] (M, L, R, K) none (M', L, R, K) := by
  refine rm_rn rfl rfl (Nat.le_of_ble_eq_true rfl) ?_
  show Rn G mt_X12_pays 0 [(0, .ref a0), (1, .int x1), (2, .int x2)] [] (M, L, R, K) none (M', L, R, K)
  unfold f_X12_pays at h
  refine rn_aload_n (q := 0) 0 rfl zd_X12_pays_0.1.1.1.1 ?_
  refine rn_getR zf_X12_104 (Or.inr ⟨_, rfl⟩) k_a0 (zx_12_46 hW k_a0) zd_X12_pays_0.1.1.1.2 ?_
  refine rn_iload_n (q := 1) 1 rfl zd_X12_pays_0.1.1.2.1 ?_
  refine rn_dup2 zd_X12_pays_0.1.1.2.2 rfl rfl ?_
  obtain ⟨hc1, h⟩ := zck_e h
  refine rn_iald (zw_12_46 hW k_a0) hc1 zd_X12_pays_0.1.2.1.1 ?_
  refine rn_iload_n (q := 2) 2 rfl zd_X12_pays_0.1.2.1.2 ?_
  refine rn_isub zd_X12_pays_0.1.2.2.1 ?_
  obtain ⟨hc2, h⟩ := zck_e h
  obtain ⟨M3, hM3, h⟩ := zlt_e h
  refine rn_iast hM3 (zw_12_46 hW k_a0) hc2 zd_X12_pays_0.1.2.2.2 ?_
  refine rn_aload_n (q := 0) 0 rfl zd_X12_pays_0.2.1.1.1 ?_
  refine rn_getR zf_X12_104 (Or.inr ⟨_, rfl⟩) k_a0 (zx_12_46 hW k_a0) zd_X12_pays_0.2.1.1.2 ?_
  refine rn_bipush (v := 41) zd_X12_pays_0.2.1.2.1 rfl ?_
  refine rn_dup2 zd_X12_pays_0.2.1.2.2 rfl rfl ?_
  refine rn_iald (zw_12_46 hW k_a0) (by decide) zd_X12_pays_0.2.2.1.1 ?_
  refine rn_iload_n (q := 2) 2 rfl zd_X12_pays_0.2.2.1.2 ?_
  refine rn_iadd zd_X12_pays_0.2.2.2.1 ?_
  obtain ⟨M4, hM4, h⟩ := zlt_e h
  refine rn_iast hM4 (zw_12_46 hW k_a0) (by decide) zd_X12_pays_0.2.2.2.2 ?_
  refine rn_aload_n (q := 0) 0 rfl zd_X12_pays_1.1.1.1.1 ?_
  refine rn_getR zf_X12_104 (Or.inr ⟨_, rfl⟩) k_a0 (zx_12_46 hW k_a0) zd_X12_pays_1.1.1.1.2 ?_
  refine rn_bipush (v := 20) zd_X12_pays_1.1.1.2.1 rfl ?_
  refine rn_iload_n (q := 1) 1 rfl zd_X12_pays_1.1.1.2.2 ?_
  refine rn_iadd zd_X12_pays_1.1.2.1.1 ?_
  refine rn_iload_n (q := 2) 2 rfl zd_X12_pays_1.1.2.1.2 ?_
  obtain ⟨hc5, h⟩ := zck_e h
  obtain ⟨M6, hM6, h⟩ := zlt_e h
  refine rn_iast hM6 (zw_12_46 hW k_a0) hc5 zd_X12_pays_1.1.2.2.1 ?_
  refine rn_aload_n (q := 0) 0 rfl zd_X12_pays_1.1.2.2.2 ?_
  refine rn_getR zf_X12_104 (Or.inr ⟨_, rfl⟩) k_a0 (zx_12_46 hW k_a0) zd_X12_pays_1.2.1.1.1 ?_
  refine rn_bipush (v := 30) zd_X12_pays_1.2.1.1.2 rfl ?_
  refine rn_iload_n (q := 1) 1 rfl zd_X12_pays_1.2.1.2.1 ?_
  refine rn_iadd zd_X12_pays_1.2.1.2.2 ?_
  refine rn_dup2 zd_X12_pays_1.2.2.1.1 rfl rfl ?_
  obtain ⟨hc7, h⟩ := zck_e h
  refine rn_iald (zw_12_46 hW k_a0) hc7 zd_X12_pays_1.2.2.1.2 ?_
  refine rn_iload_n (q := 2) 2 rfl zd_X12_pays_1.2.2.2.1 ?_
  refine rn_iadd zd_X12_pays_1.2.2.2.2 ?_
  obtain ⟨hc8, h⟩ := zck_e h
  obtain ⟨M9, hM9, h⟩ := zlt_e h
  refine rn_iast hM9 (zw_12_46 hW k_a0) hc8 zd_X12_pays_2.1 ?_
  cases h
  exact rn_vret zd_X12_pays_2.2 rfl
abbrev P_X12_payAll_51 (G : zG) (K : zK) (R : zR) (L : zL) (a0 : Nat) (x3 : Int32) (r : Option Value) (S' : zS) (v : Int32 × zM) : Prop := Rn G mt_X12_payAll 51 [(0, .ref a0), (3, .int x3), (4, .int v.1)] [] (v.2, L, R, K) r S'
abbrev Q_X12_payAll_51 (G : zG) (K : zK) (R : zR) (L : zL) (a0 : Nat) (x3 : Int32) (r : Option Value) (S' : zS) : (zM) → Prop := (fun e => Rn G mt_X12_payAll 76 [(0, .ref a0), (3, .int x3)] [] (e, L, R, K) r S')
def b_X12_payAll_51 (R : zR) (M : zM) (a0 : Nat) (x3 : Int32) (x4 : Int32) : Option ((Int32 × zM) ⊕ ((zM))) :=
  if x3 ≤ x4 then (
    some (.inr M)
  ) else (
    zbd2 (f_X12_wanted R M a0 x4) fun r3 M4 =>
    zck (zin x4 10) <|
    zlt (zup M4 (R a0 47) (ztn x4) r3) fun M7 =>
    some (.inl ((x4 + 1), M7))
  )
set_option maxRecDepth 4000 in
theorem ok_b_X12_payAll_51 {G : zG} {K : zK} {R : zR} {M : zM} {L : zL} (hW : zWT R K) {a0 : Nat} {x3 : Int32} {x4 : Int32} (k_a0 : K[a0]? = some (12, 61)) {r : Option Value} {S' : zS} {x : (Int32 × zM) ⊕ ((zM))} (h : b_X12_payAll_51 R M a0 x3 x4 = some x) (hk : Sum.elim (P_X12_payAll_51 G K R L a0 x3 r S') (Q_X12_payAll_51 G K R L a0 x3 r S') x) : P_X12_payAll_51 G K R L a0 x3 r S' (x4, M) := by
  show Rn G mt_X12_payAll 51 [(0, .ref a0), (3, .int x3), (4, .int x4)] [] (M, L, R, K) r S'
  unfold b_X12_payAll_51 at h
  refine rn_iload 2 rfl zd_X12_payAll_1.2.2.2.2 ?_
  refine rn_iload_n (q := 3) 1 rfl zd_X12_payAll_2.1.1.1.1 ?_
  rcases zif_e h with ⟨hc2, h⟩ | ⟨hc2, h⟩
  · refine rn_icmp_ge_t (tgt := 76) hc2 zd_X12_payAll_2.1.1.1.2 rfl ?_
    cases h
    exact rn_sub (ls' := [(0, .ref a0), (3, .int x3)]) [0, 1] rfl hk
  · refine rn_icmp_ge_f (tgt := 76) hc2 zd_X12_payAll_2.1.1.1.2 rfl ?_
    refine rn_aload_n (q := 0) 0 rfl zd_X12_payAll_2.1.1.2.1 ?_
    refine rn_getR zf_X12_107 (Or.inr ⟨_, rfl⟩) k_a0 (zx_12_47 hW k_a0) zd_X12_payAll_2.1.1.2.2 ?_
    refine rn_iload 2 rfl zd_X12_payAll_2.1.2.1.1 ?_
    refine rn_aload_n (q := 0) 0 rfl zd_X12_payAll_2.1.2.1.2 ?_
    refine rn_iload 2 rfl zd_X12_payAll_2.1.2.2.1 ?_
    obtain ⟨r3, M4, h5, h⟩ := zbd2_e h
    refine rn_callVi (As := [.int x4]) (rest := [.int x4, .ref (R a0 47)]) zl_X12_303 zm_X12_wanted ⟨by decide, by decide⟩ (ci := 12) rfl rfl (by decide) k_a0 rfl rfl (Nat.le_of_ble_eq_true rfl) zd_X12_payAll_2.1.2.2.2 (ok_X12_wanted hW k_a0 h5) ?_
    obtain ⟨hc6, h⟩ := zck_e h
    obtain ⟨M7, hM7, h⟩ := zlt_e h
    refine rn_iast hM7 (zw_12_47 hW k_a0) hc6 zd_X12_payAll_2.2.1.1.1 ?_
    refine rn_iinc (v := (x4 + 1)) (ls' := [(4, .int (x4 + 1)), (0, .ref a0), (3, .int x3)]) 2 rfl rfl (by decide) rfl zd_X12_payAll_2.2.1.1.2 ?_
    refine rn_goto (tgt := 51) zd_X12_payAll_2.2.1.2.1 rfl ?_
    cases h
    exact rn_sub (ls' := [(0, .ref a0), (3, .int x3), (4, .int (x4 + 1))]) [1, 2, 0] rfl hk
abbrev P_X12_payAll_79 (G : zG) (K : zK) (R : zR) (L : zL) (a0 : Nat) (x3 : Int32) (r : Option Value) (S' : zS) (v : Int32 × zM) : Prop := Rn G mt_X12_payAll 79 [(0, .ref a0), (3, .int x3), (4, .int v.1)] [] (v.2, L, R, K) r S'
abbrev Q_X12_payAll_79 (G : zG) (K : zK) (R : zR) (L : zL) (a0 : Nat) (x3 : Int32) (r : Option Value) (S' : zS) : (zM) → Prop := (fun e => Rn G mt_X12_payAll 104 [] [] (e, L, R, K) r S')
def b_X12_payAll_79 (R : zR) (M : zM) (a0 : Nat) (x3 : Int32) (x4 : Int32) : Option ((Int32 × zM) ⊕ ((zM))) :=
  if x3 ≤ x4 then (
    some (.inr M)
  ) else (
    zck (zin x4 10) <|
    zbd (f_X12_pays R M a0 x4 (M (R a0 47) (ztn x4))) fun M11 =>
    some (.inl ((x4 + 1), M11))
  )
set_option maxRecDepth 4000 in
theorem ok_b_X12_payAll_79 {G : zG} {K : zK} {R : zR} {M : zM} {L : zL} (hW : zWT R K) {a0 : Nat} {x3 : Int32} {x4 : Int32} (k_a0 : K[a0]? = some (12, 61)) {r : Option Value} {S' : zS} {x : (Int32 × zM) ⊕ ((zM))} (h : b_X12_payAll_79 R M a0 x3 x4 = some x) (hk : Sum.elim (P_X12_payAll_79 G K R L a0 x3 r S') (Q_X12_payAll_79 G K R L a0 x3 r S') x) : P_X12_payAll_79 G K R L a0 x3 r S' (x4, M) := by
  show Rn G mt_X12_payAll 79 [(0, .ref a0), (3, .int x3), (4, .int x4)] [] (M, L, R, K) r S'
  unfold b_X12_payAll_79 at h
  refine rn_iload 2 rfl zd_X12_payAll_2.2.2.1.2 ?_
  refine rn_iload_n (q := 3) 1 rfl zd_X12_payAll_2.2.2.2.1 ?_
  rcases zif_e h with ⟨hc9, h⟩ | ⟨hc9, h⟩
  · refine rn_icmp_ge_t (tgt := 104) hc9 zd_X12_payAll_2.2.2.2.2 rfl ?_
    cases h
    exact rn_sub (ls' := []) [] rfl hk
  · refine rn_icmp_ge_f (tgt := 104) hc9 zd_X12_payAll_2.2.2.2.2 rfl ?_
    refine rn_aload_n (q := 0) 0 rfl zd_X12_payAll_3.1.1.1 ?_
    refine rn_iload 2 rfl zd_X12_payAll_3.1.1.2 ?_
    refine rn_aload_n (q := 0) 0 rfl zd_X12_payAll_3.1.2.1 ?_
    refine rn_getR zf_X12_107 (Or.inr ⟨_, rfl⟩) k_a0 (zx_12_47 hW k_a0) zd_X12_payAll_3.1.2.2.1 ?_
    refine rn_iload 2 rfl zd_X12_payAll_3.1.2.2.2 ?_
    obtain ⟨hc10, h⟩ := zck_e h
    refine rn_iald (zw_12_47 hW k_a0) hc10 zd_X12_payAll_3.2.1.1 ?_
    obtain ⟨M11, h12, h⟩ := zbd_e h
    refine rn_callVv (As := [.int x4, .int (M (R a0 47) (ztn x4))]) (rest := []) zl_X12_306 zm_X12_pays ⟨by decide, by decide⟩ (ci := 12) rfl rfl (by decide) k_a0 rfl rfl (Nat.le_of_ble_eq_true rfl) zd_X12_payAll_3.2.1.2 (ok_X12_pays hW k_a0 h12) ?_
    refine rn_iinc (v := (x4 + 1)) (ls' := [(4, .int (x4 + 1)), (0, .ref a0), (3, .int x3)]) 2 rfl rfl (by decide) rfl zd_X12_payAll_3.2.2.1 ?_
    refine rn_goto (tgt := 79) zd_X12_payAll_3.2.2.2.1 rfl ?_
    cases h
    exact rn_sub (ls' := [(0, .ref a0), (3, .int x3), (4, .int (x4 + 1))]) [1, 2, 0] rfl hk
abbrev P_X12_payAll_15 (G : zG) (K : zK) (R : zR) (L : zL) (a0 : Nat) (x2 : Int32) (x3 : Int32) (r : Option Value) (S' : zS) (v : Int32 × zM) : Prop := Rn G mt_X12_payAll 15 [(0, .ref a0), (2, .int x2), (3, .int x3), (4, .int v.1)] [] (v.2, L, R, K) r S'
abbrev Q_X12_payAll_15 (G : zG) (K : zK) (R : zR) (L : zL) (a0 : Nat) (x2 : Int32) (x3 : Int32) (r : Option Value) (S' : zS) : (zM) → Prop := (fun e => Rn G mt_X12_payAll 47 [] [] (e, L, R, K) r S')
def b_X12_payAll_15 (R : zR) (M : zM) (a0 : Nat) (x2 : Int32) (x3 : Int32) (x4 : Int32) : Option ((Int32 × zM) ⊕ ((zM))) :=
  if x3 ≤ x4 then (
    some (.inr M)
  ) else (
    zck (znz x3) <|
    zck (znz x3) <|
    zbd2 (f_X12_wanted R M a0 ((x2 + x4) - (x2 + x4) / x3 * x3)) fun r17 M18 =>
    zbd (f_X12_pays R M18 a0 ((x2 + x4) - (x2 + x4) / x3 * x3) r17) fun M20 =>
    some (.inl ((x4 + 1), M20))
  )
set_option maxRecDepth 4000 in
theorem ok_b_X12_payAll_15 {G : zG} {K : zK} {R : zR} {M : zM} {L : zL} (hW : zWT R K) {a0 : Nat} {x2 : Int32} {x3 : Int32} {x4 : Int32} (k_a0 : K[a0]? = some (12, 61)) {r : Option Value} {S' : zS} {x : (Int32 × zM) ⊕ ((zM))} (h : b_X12_payAll_15 R M a0 x2 x3 x4 = some x) (hk : Sum.elim (P_X12_payAll_15 G K R L a0 x2 x3 r S') (Q_X12_payAll_15 G K R L a0 x2 x3 r S') x) : P_X12_payAll_15 G K R L a0 x2 x3 r S' (x4, M) := by
  show Rn G mt_X12_payAll 15 [(0, .ref a0), (2, .int x2), (3, .int x3), (4, .int x4)] [] (M, L, R, K) r S'
  unfold b_X12_payAll_15 at h
  refine rn_iload 3 rfl zd_X12_payAll_0.2.1.1.2 ?_
  refine rn_iload_n (q := 3) 2 rfl zd_X12_payAll_0.2.1.2.1 ?_
  rcases zif_e h with ⟨hc14, h⟩ | ⟨hc14, h⟩
  · refine rn_icmp_ge_t (tgt := 47) hc14 zd_X12_payAll_0.2.1.2.2 rfl ?_
    cases h
    exact rn_sub (ls' := []) [] rfl hk
  · refine rn_icmp_ge_f (tgt := 47) hc14 zd_X12_payAll_0.2.1.2.2 rfl ?_
    refine rn_aload_n (q := 0) 0 rfl zd_X12_payAll_0.2.2.1.1 ?_
    refine rn_iload_n (q := 2) 1 rfl zd_X12_payAll_0.2.2.1.2 ?_
    refine rn_iload 3 rfl zd_X12_payAll_0.2.2.2.1 ?_
    refine rn_iadd zd_X12_payAll_0.2.2.2.2 ?_
    refine rn_iload_n (q := 3) 2 rfl zd_X12_payAll_1.1.1.1.1 ?_
    obtain ⟨hc15, h⟩ := zck_e h
    refine rn_irem zd_X12_payAll_1.1.1.1.2 (znz_e hc15) ?_
    refine rn_aload_n (q := 0) 0 rfl zd_X12_payAll_1.1.1.2.1 ?_
    refine rn_iload_n (q := 2) 1 rfl zd_X12_payAll_1.1.1.2.2 ?_
    refine rn_iload 3 rfl zd_X12_payAll_1.1.2.1.1 ?_
    refine rn_iadd zd_X12_payAll_1.1.2.1.2 ?_
    refine rn_iload_n (q := 3) 2 rfl zd_X12_payAll_1.1.2.2.1 ?_
    obtain ⟨hc16, h⟩ := zck_e h
    refine rn_irem zd_X12_payAll_1.1.2.2.2 (znz_e hc16) ?_
    obtain ⟨r17, M18, h19, h⟩ := zbd2_e h
    refine rn_callVi (As := [.int ((x2 + x4) - (x2 + x4) / x3 * x3)]) (rest := [.int ((x2 + x4) - (x2 + x4) / x3 * x3), .ref a0]) zl_X12_303 zm_X12_wanted ⟨by decide, by decide⟩ (ci := 12) rfl rfl (by decide) k_a0 rfl rfl (Nat.le_of_ble_eq_true rfl) zd_X12_payAll_1.2.1.1.1 (ok_X12_wanted hW k_a0 h19) ?_
    obtain ⟨M20, h21, h⟩ := zbd_e h
    refine rn_callVv (As := [.int ((x2 + x4) - (x2 + x4) / x3 * x3), .int r17]) (rest := []) zl_X12_306 zm_X12_pays ⟨by decide, by decide⟩ (ci := 12) rfl rfl (by decide) k_a0 rfl rfl (Nat.le_of_ble_eq_true rfl) zd_X12_payAll_1.2.1.1.2 (ok_X12_pays hW k_a0 h21) ?_
    refine rn_iinc (v := (x4 + 1)) (ls' := [(4, .int (x4 + 1)), (0, .ref a0), (2, .int x2), (3, .int x3)]) 3 rfl rfl (by decide) rfl zd_X12_payAll_1.2.1.2.1 ?_
    refine rn_goto (tgt := 15) zd_X12_payAll_1.2.1.2.2 rfl ?_
    cases h
    exact rn_sub (ls' := [(0, .ref a0), (2, .int x2), (3, .int x3), (4, .int (x4 + 1))]) [1, 2, 3, 0] rfl hk
def f_X12_payAll (R : zR) (M : zM) (a0 : Nat) (x1 : Int32) (x2 : Int32) : Option (zM) :=
  if x1 = 0 then (
    zbd (zloop zN (fun v => b_X12_payAll_51 R v.2 a0 (M (R a0 46) (ztn (40 : Int32))) v.1) ((0 : Int32), M)) fun e8 =>
    zbd (zloop zN (fun v => b_X12_payAll_79 R v.2 a0 (M (R a0 46) (ztn (40 : Int32))) v.1) ((0 : Int32), e8)) fun e13 =>
    some e13
  ) else (
    zbd (zloop zN (fun v => b_X12_payAll_15 R v.2 a0 x2 (M (R a0 46) (ztn (40 : Int32))) v.1) ((0 : Int32), M)) fun e22 =>
    some e22
  )
set_option maxRecDepth 4000 in
theorem ok_X12_payAll {G : zG} {K : zK} {R : zR} {M : zM} {L : zL} (hW : zWT R K) {a0 : Nat} {x1 : Int32} {x2 : Int32} (k_a0 : K[a0]? = some (12, 61)) {M' : zM} (h : f_X12_payAll R M a0 x1 x2 = some M') : Rm G mt_X12_payAll [.ref a0, .int x1, .int x2] (M, L, R, K) none (M', L, R, K) := by
  refine rm_rn rfl rfl (Nat.le_of_ble_eq_true rfl) ?_
  show Rn G mt_X12_payAll 0 [(0, .ref a0), (1, .int x1), (2, .int x2)] [] (M, L, R, K) none (M', L, R, K)
  unfold f_X12_payAll at h
  refine rn_aload_n (q := 0) 0 rfl zd_X12_payAll_0.1.1.1.1 ?_
  refine rn_getR zf_X12_104 (Or.inr ⟨_, rfl⟩) k_a0 (zx_12_46 hW k_a0) zd_X12_payAll_0.1.1.1.2 ?_
  refine rn_bipush (v := 40) zd_X12_payAll_0.1.1.2.1 rfl ?_
  refine rn_iald (zw_12_46 hW k_a0) (by decide) zd_X12_payAll_0.1.1.2.2 ?_
  refine rn_istore_n (q := 3) (ls' := [(3, .int (M (R a0 46) (ztn (40 : Int32)))), (0, .ref a0), (1, .int x1), (2, .int x2)]) (by decide) rfl zd_X12_payAll_0.1.2.1.1 ?_
  refine rn_iload_n (q := 1) 2 rfl zd_X12_payAll_0.1.2.1.2 ?_
  rcases zif_e h with ⟨hc1, h⟩ | ⟨hc1, h⟩
  · refine rn_if_eq_t (tgt := 48) hc1 zd_X12_payAll_0.1.2.2.1 rfl ?_
    refine rn_iconst (v := 0) zd_X12_payAll_1.2.2.1.2 rfl ?_
    refine rn_istore (ls' := [(4, .int (0 : Int32)), (3, .int (M (R a0 46) (ztn (40 : Int32)))), (0, .ref a0), (1, .int x1), (2, .int x2)]) (by decide) rfl zd_X12_payAll_1.2.2.2.1 ?_
    obtain ⟨e8, he8, h⟩ := zbd_e h
    refine rn_sub (ls' := [(0, .ref a0), (3, .int (M (R a0 46) (ztn (40 : Int32)))), (4, .int (0 : Int32))]) [2, 1, 0] rfl (zloop_ok (P := P_X12_payAll_51 G K R L a0 (M (R a0 46) (ztn (40 : Int32))) none (M', L, R, K)) (Q := Q_X12_payAll_51 G K R L a0 (M (R a0 46) (ztn (40 : Int32))) none (M', L, R, K)) (fun v x hx hq => ok_b_X12_payAll_51 hW k_a0 hx hq) _ _ _ he8 ?_)
    show Rn G mt_X12_payAll 76 [(0, .ref a0), (3, .int (M (R a0 46) (ztn (40 : Int32))))] [] (e8, L, R, K) none (M', L, R, K)
    refine rn_iconst (v := 0) zd_X12_payAll_2.2.1.2.2 rfl ?_
    refine rn_istore (ls' := [(4, .int (0 : Int32)), (0, .ref a0), (3, .int (M (R a0 46) (ztn (40 : Int32))))]) (by decide) rfl zd_X12_payAll_2.2.2.1.1 ?_
    obtain ⟨e13, he13, h⟩ := zbd_e h
    refine rn_sub (ls' := [(0, .ref a0), (3, .int (M (R a0 46) (ztn (40 : Int32)))), (4, .int (0 : Int32))]) [1, 2, 0] rfl (zloop_ok (P := P_X12_payAll_79 G K R L a0 (M (R a0 46) (ztn (40 : Int32))) none (M', L, R, K)) (Q := Q_X12_payAll_79 G K R L a0 (M (R a0 46) (ztn (40 : Int32))) none (M', L, R, K)) (fun v x hx hq => ok_b_X12_payAll_79 hW k_a0 hx hq) _ _ _ he13 ?_)
    show Rn G mt_X12_payAll 104 [] [] (e13, L, R, K) none (M', L, R, K)
    cases h
    exact rn_vret zd_X12_payAll_3.2.2.2.2 rfl
  · refine rn_if_eq_f (tgt := 48) hc1 zd_X12_payAll_0.1.2.2.1 rfl ?_
    refine rn_iconst (v := 0) zd_X12_payAll_0.1.2.2.2 rfl ?_
    refine rn_istore (ls' := [(4, .int (0 : Int32)), (3, .int (M (R a0 46) (ztn (40 : Int32)))), (0, .ref a0), (1, .int x1), (2, .int x2)]) (by decide) rfl zd_X12_payAll_0.2.1.1.1 ?_
    obtain ⟨e22, he22, h⟩ := zbd_e h
    refine rn_sub (ls' := [(0, .ref a0), (2, .int x2), (3, .int (M (R a0 46) (ztn (40 : Int32)))), (4, .int (0 : Int32))]) [2, 4, 1, 0] rfl (zloop_ok (P := P_X12_payAll_15 G K R L a0 x2 (M (R a0 46) (ztn (40 : Int32))) none (M', L, R, K)) (Q := Q_X12_payAll_15 G K R L a0 x2 (M (R a0 46) (ztn (40 : Int32))) none (M', L, R, K)) (fun v x hx hq => ok_b_X12_payAll_15 hW k_a0 hx hq) _ _ _ he22 ?_)
    show Rn G mt_X12_payAll 47 [] [] (e22, L, R, K) none (M', L, R, K)
    cases h
    exact rn_vret zd_X12_payAll_1.2.2.1.1 rfl
abbrev P_X12_shares_163 (G : zG) (K : zK) (R : zR) (L : zL) (a0 : Nat) (r : Option Value) (S' : zS) (v : Int32 × zM) : Prop := Rn G mt_X12_shares 163 [(0, .ref a0), (4, .int v.1)] [] (v.2, L, R, K) r S'
abbrev Q_X12_shares_163 (G : zG) (K : zK) (R : zR) (L : zL) (a0 : Nat) (r : Option Value) (S' : zS) : (zM) → Prop := (fun e => Rn G mt_X12_shares 187 [(0, .ref a0)] [] (e, L, R, K) r S')
def b_X12_shares_163 (R : zR) (M : zM) (a0 : Nat) (x4 : Int32) : Option ((Int32 × zM) ⊕ ((zM))) :=
  if (10 : Int32) ≤ x4 then (
    some (.inr M)
  ) else (
    zck (zin ((30 : Int32) + x4) 60) <|
    zlt (zup M (R a0 46) (ztn ((30 : Int32) + x4)) (0 : Int32)) fun M11 =>
    some (.inl ((x4 + 1), M11))
  )
set_option maxRecDepth 4000 in
theorem ok_b_X12_shares_163 {G : zG} {K : zK} {R : zR} {M : zM} {L : zL} (hW : zWT R K) {a0 : Nat} {x4 : Int32} (k_a0 : K[a0]? = some (12, 61)) {r : Option Value} {S' : zS} {x : (Int32 × zM) ⊕ ((zM))} (h : b_X12_shares_163 R M a0 x4 = some x) (hk : Sum.elim (P_X12_shares_163 G K R L a0 r S') (Q_X12_shares_163 G K R L a0 r S') x) : P_X12_shares_163 G K R L a0 r S' (x4, M) := by
  show Rn G mt_X12_shares 163 [(0, .ref a0), (4, .int x4)] [] (M, L, R, K) r S'
  unfold b_X12_shares_163 at h
  refine rn_iload 1 rfl zd_X12_shares_6.1.1.2.1 ?_
  refine rn_bipush (v := 10) zd_X12_shares_6.1.1.2.2 rfl ?_
  rcases zif_e h with ⟨hc9, h⟩ | ⟨hc9, h⟩
  · refine rn_icmp_ge_t (tgt := 187) hc9 zd_X12_shares_6.1.2.1.1 rfl ?_
    cases h
    exact rn_sub (ls' := [(0, .ref a0)]) [0] rfl hk
  · refine rn_icmp_ge_f (tgt := 187) hc9 zd_X12_shares_6.1.2.1.1 rfl ?_
    refine rn_aload_n (q := 0) 0 rfl zd_X12_shares_6.1.2.1.2 ?_
    refine rn_getR zf_X12_104 (Or.inr ⟨_, rfl⟩) k_a0 (zx_12_46 hW k_a0) zd_X12_shares_6.1.2.2.1 ?_
    refine rn_bipush (v := 30) zd_X12_shares_6.1.2.2.2 rfl ?_
    refine rn_iload 1 rfl zd_X12_shares_6.2.1.1.1 ?_
    refine rn_iadd zd_X12_shares_6.2.1.1.2 ?_
    refine rn_iconst (v := 0) zd_X12_shares_6.2.1.2.1 rfl ?_
    obtain ⟨hc10, h⟩ := zck_e h
    obtain ⟨M11, hM11, h⟩ := zlt_e h
    refine rn_iast hM11 (zw_12_46 hW k_a0) hc10 zd_X12_shares_6.2.1.2.2 ?_
    refine rn_iinc (v := (x4 + 1)) (ls' := [(4, .int (x4 + 1)), (0, .ref a0)]) 1 rfl rfl (by decide) rfl zd_X12_shares_6.2.2.1.1 ?_
    refine rn_goto (tgt := 163) zd_X12_shares_6.2.2.1.2 rfl ?_
    cases h
    exact rn_sub (ls' := [(0, .ref a0), (4, .int (x4 + 1))]) [1, 0] rfl hk
abbrev P_X12_shares_95 (G : zG) (K : zK) (R : zR) (L : zL) (a0 : Nat) (x2 : Int32) (x4 : Int32) (r : Option Value) (S' : zS) (v : Int32 × zM) : Prop := Rn G mt_X12_shares 95 [(0, .ref a0), (2, .int x2), (4, .int x4), (5, .int v.1)] [] (v.2, L, R, K) r S'
abbrev Q_X12_shares_95 (G : zG) (K : zK) (R : zR) (L : zL) (a0 : Nat) (x2 : Int32) (x4 : Int32) (r : Option Value) (S' : zS) : (zM) → Prop := (fun e => Rn G mt_X12_shares 119 [(0, .ref a0), (2, .int x2), (4, .int x4)] [] (e, L, R, K) r S')
def b_X12_shares_95 (R : zR) (M : zM) (a0 : Nat) (x2 : Int32) (x4 : Int32) (x5 : Int32) : Option ((Int32 × zM) ⊕ ((zM))) :=
  if x2 ≤ x5 then (
    some (.inr M)
  ) else (
    zck (zin x5 60) <|
    zck (zin x5 60) <|
    zlt (zup M (R a0 46) (ztn x5) ((M (R a0 46) (ztn x5)) + x4)) fun M18 =>
    some (.inl ((x5 + 1), M18))
  )
set_option maxRecDepth 4000 in
theorem ok_b_X12_shares_95 {G : zG} {K : zK} {R : zR} {M : zM} {L : zL} (hW : zWT R K) {a0 : Nat} {x2 : Int32} {x4 : Int32} {x5 : Int32} (k_a0 : K[a0]? = some (12, 61)) {r : Option Value} {S' : zS} {x : (Int32 × zM) ⊕ ((zM))} (h : b_X12_shares_95 R M a0 x2 x4 x5 = some x) (hk : Sum.elim (P_X12_shares_95 G K R L a0 x2 x4 r S') (Q_X12_shares_95 G K R L a0 x2 x4 r S') x) : P_X12_shares_95 G K R L a0 x2 x4 r S' (x5, M) := by
  show Rn G mt_X12_shares 95 [(0, .ref a0), (2, .int x2), (4, .int x4), (5, .int x5)] [] (M, L, R, K) r S'
  unfold b_X12_shares_95 at h
  refine rn_iload 3 rfl zd_X12_shares_3.2.1.1.1 ?_
  refine rn_iload_n (q := 2) 1 rfl zd_X12_shares_3.2.1.1.2 ?_
  rcases zif_e h with ⟨hc15, h⟩ | ⟨hc15, h⟩
  · refine rn_icmp_ge_t (tgt := 119) hc15 zd_X12_shares_3.2.1.2.1 rfl ?_
    cases h
    exact rn_sub (ls' := [(0, .ref a0), (2, .int x2), (4, .int x4)]) [0, 1, 2] rfl hk
  · refine rn_icmp_ge_f (tgt := 119) hc15 zd_X12_shares_3.2.1.2.1 rfl ?_
    refine rn_aload_n (q := 0) 0 rfl zd_X12_shares_3.2.1.2.2 ?_
    refine rn_getR zf_X12_104 (Or.inr ⟨_, rfl⟩) k_a0 (zx_12_46 hW k_a0) zd_X12_shares_3.2.2.1.1 ?_
    refine rn_iload 3 rfl zd_X12_shares_3.2.2.1.2 ?_
    refine rn_dup2 zd_X12_shares_3.2.2.2.1 rfl rfl ?_
    obtain ⟨hc16, h⟩ := zck_e h
    refine rn_iald (zw_12_46 hW k_a0) hc16 zd_X12_shares_3.2.2.2.2 ?_
    refine rn_iload 2 rfl zd_X12_shares_4.1.1.1.1 ?_
    refine rn_iadd zd_X12_shares_4.1.1.1.2 ?_
    obtain ⟨hc17, h⟩ := zck_e h
    obtain ⟨M18, hM18, h⟩ := zlt_e h
    refine rn_iast hM18 (zw_12_46 hW k_a0) hc17 zd_X12_shares_4.1.1.2.1 ?_
    refine rn_iinc (v := (x5 + 1)) (ls' := [(5, .int (x5 + 1)), (0, .ref a0), (2, .int x2), (4, .int x4)]) 3 rfl rfl (by decide) rfl zd_X12_shares_4.1.1.2.2 ?_
    refine rn_goto (tgt := 95) zd_X12_shares_4.1.2.1.1 rfl ?_
    cases h
    exact rn_sub (ls' := [(0, .ref a0), (2, .int x2), (4, .int x4), (5, .int (x5 + 1))]) [1, 2, 3, 0] rfl hk
def j_X12_shares_77 (R : zR) (M : zM) (a0 : Nat) (x1 : Int32) (x2 : Int32) (x3 : Int32) : Option (zM) :=
  if x1 = 0 then (
    zck (znz x2) <|
    zbd (zloop zN (fun v => b_X12_shares_95 R v.2 a0 x2 ((M (R a0 46) (ztn (41 : Int32))) / x2) v.1) ((0 : Int32), M)) fun e19 =>
    zlt (zup e19 (R a0 46) (ztn (41 : Int32)) ((e19 (R a0 46) (ztn (41 : Int32))) - (((M (R a0 46) (ztn (41 : Int32))) / x2) * x2))) fun M20 =>
    zbd (zloop zN (fun v => b_X12_shares_163 R v.2 a0 v.1) ((0 : Int32), M20)) fun e21 =>
    zlt (zup e21 (R a0 46) (ztn (43 : Int32)) ((e21 (R a0 46) (ztn (43 : Int32))) + (1 : Int32))) fun M22 =>
    some M22
  ) else (
    zck (zin x3 60) <|
    zck (zin x3 60) <|
    zlt (zup M (R a0 46) (ztn x3) ((M (R a0 46) (ztn x3)) + (M (R a0 46) (ztn (41 : Int32))))) fun M7 =>
    zlt (zup M7 (R a0 46) (ztn (41 : Int32)) (0 : Int32)) fun M8 =>
    zbd (zloop zN (fun v => b_X12_shares_163 R v.2 a0 v.1) ((0 : Int32), M8)) fun e12 =>
    zlt (zup e12 (R a0 46) (ztn (43 : Int32)) ((e12 (R a0 46) (ztn (43 : Int32))) + (1 : Int32))) fun M13 =>
    some M13
  )
set_option maxRecDepth 4000 in
theorem ok_j_X12_shares_77 {G : zG} {K : zK} {R : zR} {M : zM} {L : zL} (hW : zWT R K) {a0 : Nat} {x1 : Int32} {x2 : Int32} {x3 : Int32} (k_a0 : K[a0]? = some (12, 61)) {M' : zM} (h : j_X12_shares_77 R M a0 x1 x2 x3 = some M') : Rn G mt_X12_shares 77 [(0, .ref a0), (1, .int x1), (2, .int x2), (3, .int x3)] [] (M, L, R, K) none (M', L, R, K) := by
  unfold j_X12_shares_77 at h
  refine rn_iload_n (q := 1) 1 rfl zd_X12_shares_2.2.2.1.2 ?_
  rcases zif_e h with ⟨hc4, h⟩ | ⟨hc4, h⟩
  · refine rn_if_ne_f (tgt := 136) hc4 zd_X12_shares_2.2.2.2.1 rfl ?_
    refine rn_aload_n (q := 0) 0 rfl zd_X12_shares_2.2.2.2.2 ?_
    refine rn_getR zf_X12_104 (Or.inr ⟨_, rfl⟩) k_a0 (zx_12_46 hW k_a0) zd_X12_shares_3.1.1.1.1 ?_
    refine rn_bipush (v := 41) zd_X12_shares_3.1.1.1.2 rfl ?_
    refine rn_iald (zw_12_46 hW k_a0) (by decide) zd_X12_shares_3.1.1.2.1 ?_
    refine rn_iload_n (q := 2) 2 rfl zd_X12_shares_3.1.1.2.2 ?_
    obtain ⟨hc14, h⟩ := zck_e h
    refine rn_idiv zd_X12_shares_3.1.2.1.1 (znz_e hc14) ?_
    refine rn_istore (ls' := [(4, .int ((M (R a0 46) (ztn (41 : Int32))) / x2)), (0, .ref a0), (1, .int x1), (2, .int x2), (3, .int x3)]) (by decide) rfl zd_X12_shares_3.1.2.1.2 ?_
    refine rn_iconst (v := 0) zd_X12_shares_3.1.2.2.1 rfl ?_
    refine rn_istore (ls' := [(5, .int (0 : Int32)), (4, .int ((M (R a0 46) (ztn (41 : Int32))) / x2)), (0, .ref a0), (1, .int x1), (2, .int x2), (3, .int x3)]) (by decide) rfl zd_X12_shares_3.1.2.2.2 ?_
    obtain ⟨e19, he19, h⟩ := zbd_e h
    refine rn_sub (ls' := [(0, .ref a0), (2, .int x2), (4, .int ((M (R a0 46) (ztn (41 : Int32))) / x2)), (5, .int (0 : Int32))]) [2, 4, 1, 0] rfl (zloop_ok (P := P_X12_shares_95 G K R L a0 x2 ((M (R a0 46) (ztn (41 : Int32))) / x2) none (M', L, R, K)) (Q := Q_X12_shares_95 G K R L a0 x2 ((M (R a0 46) (ztn (41 : Int32))) / x2) none (M', L, R, K)) (fun v x hx hq => ok_b_X12_shares_95 hW k_a0 hx hq) _ _ _ he19 ?_)
    show Rn G mt_X12_shares 119 [(0, .ref a0), (2, .int x2), (4, .int ((M (R a0 46) (ztn (41 : Int32))) / x2))] [] (e19, L, R, K) none (M', L, R, K)
    refine rn_aload_n (q := 0) 0 rfl zd_X12_shares_4.1.2.1.2 ?_
    refine rn_getR zf_X12_104 (Or.inr ⟨_, rfl⟩) k_a0 (zx_12_46 hW k_a0) zd_X12_shares_4.1.2.2.1 ?_
    refine rn_bipush (v := 41) zd_X12_shares_4.1.2.2.2 rfl ?_
    refine rn_dup2 zd_X12_shares_4.2.1.1.1 rfl rfl ?_
    refine rn_iald (zw_12_46 hW k_a0) (by decide) zd_X12_shares_4.2.1.1.2 ?_
    refine rn_iload 2 rfl zd_X12_shares_4.2.1.2.1 ?_
    refine rn_iload_n (q := 2) 1 rfl zd_X12_shares_4.2.1.2.2 ?_
    refine rn_imul zd_X12_shares_4.2.2.1.1 ?_
    refine rn_isub zd_X12_shares_4.2.2.1.2 ?_
    obtain ⟨M20, hM20, h⟩ := zlt_e h
    refine rn_iast hM20 (zw_12_46 hW k_a0) (by decide) zd_X12_shares_4.2.2.2.1 ?_
    refine rn_goto (tgt := 160) zd_X12_shares_4.2.2.2.2 rfl ?_
    refine rn_iconst (v := 0) zd_X12_shares_6.1.1.1.1 rfl ?_
    refine rn_istore (ls' := [(4, .int (0 : Int32)), (0, .ref a0), (2, .int x2)]) (by decide) rfl zd_X12_shares_6.1.1.1.2 ?_
    obtain ⟨e21, he21, h⟩ := zbd_e h
    refine rn_sub (ls' := [(0, .ref a0), (4, .int (0 : Int32))]) [1, 0] rfl (zloop_ok (P := P_X12_shares_163 G K R L a0 none (M', L, R, K)) (Q := Q_X12_shares_163 G K R L a0 none (M', L, R, K)) (fun v x hx hq => ok_b_X12_shares_163 hW k_a0 hx hq) _ _ _ he21 ?_)
    show Rn G mt_X12_shares 187 [(0, .ref a0)] [] (e21, L, R, K) none (M', L, R, K)
    refine rn_aload_n (q := 0) 0 rfl zd_X12_shares_6.2.2.2.1 ?_
    refine rn_getR zf_X12_104 (Or.inr ⟨_, rfl⟩) k_a0 (zx_12_46 hW k_a0) zd_X12_shares_6.2.2.2.2 ?_
    refine rn_bipush (v := 43) zd_X12_shares_7.1.1 rfl ?_
    refine rn_dup2 zd_X12_shares_7.1.2.1 rfl rfl ?_
    refine rn_iald (zw_12_46 hW k_a0) (by decide) zd_X12_shares_7.1.2.2 ?_
    refine rn_iconst (v := 1) zd_X12_shares_7.2.1.1 rfl ?_
    refine rn_iadd zd_X12_shares_7.2.1.2 ?_
    obtain ⟨M22, hM22, h⟩ := zlt_e h
    refine rn_iast hM22 (zw_12_46 hW k_a0) (by decide) zd_X12_shares_7.2.2.1 ?_
    cases h
    exact rn_vret zd_X12_shares_7.2.2.2 rfl
  · refine rn_if_ne_t (tgt := 136) hc4 zd_X12_shares_2.2.2.2.1 rfl ?_
    refine rn_aload_n (q := 0) 0 rfl zd_X12_shares_5.1.1.1.1 ?_
    refine rn_getR zf_X12_104 (Or.inr ⟨_, rfl⟩) k_a0 (zx_12_46 hW k_a0) zd_X12_shares_5.1.1.1.2 ?_
    refine rn_iload_n (q := 3) 3 rfl zd_X12_shares_5.1.1.2.1 ?_
    refine rn_dup2 zd_X12_shares_5.1.1.2.2 rfl rfl ?_
    obtain ⟨hc5, h⟩ := zck_e h
    refine rn_iald (zw_12_46 hW k_a0) hc5 zd_X12_shares_5.1.2.1.1 ?_
    refine rn_aload_n (q := 0) 0 rfl zd_X12_shares_5.1.2.1.2 ?_
    refine rn_getR zf_X12_104 (Or.inr ⟨_, rfl⟩) k_a0 (zx_12_46 hW k_a0) zd_X12_shares_5.1.2.2.1 ?_
    refine rn_bipush (v := 41) zd_X12_shares_5.1.2.2.2 rfl ?_
    refine rn_iald (zw_12_46 hW k_a0) (by decide) zd_X12_shares_5.2.1.1.1 ?_
    refine rn_iadd zd_X12_shares_5.2.1.1.2 ?_
    obtain ⟨hc6, h⟩ := zck_e h
    obtain ⟨M7, hM7, h⟩ := zlt_e h
    refine rn_iast hM7 (zw_12_46 hW k_a0) hc6 zd_X12_shares_5.2.1.2.1 ?_
    refine rn_aload_n (q := 0) 0 rfl zd_X12_shares_5.2.1.2.2 ?_
    refine rn_getR zf_X12_104 (Or.inr ⟨_, rfl⟩) k_a0 (zx_12_46 hW k_a0) zd_X12_shares_5.2.2.1.1 ?_
    refine rn_bipush (v := 41) zd_X12_shares_5.2.2.1.2 rfl ?_
    refine rn_iconst (v := 0) zd_X12_shares_5.2.2.2.1 rfl ?_
    obtain ⟨M8, hM8, h⟩ := zlt_e h
    refine rn_iast hM8 (zw_12_46 hW k_a0) (by decide) zd_X12_shares_5.2.2.2.2 ?_
    refine rn_iconst (v := 0) zd_X12_shares_6.1.1.1.1 rfl ?_
    refine rn_istore (ls' := [(4, .int (0 : Int32)), (0, .ref a0), (1, .int x1), (2, .int x2), (3, .int x3)]) (by decide) rfl zd_X12_shares_6.1.1.1.2 ?_
    obtain ⟨e12, he12, h⟩ := zbd_e h
    refine rn_sub (ls' := [(0, .ref a0), (4, .int (0 : Int32))]) [1, 0] rfl (zloop_ok (P := P_X12_shares_163 G K R L a0 none (M', L, R, K)) (Q := Q_X12_shares_163 G K R L a0 none (M', L, R, K)) (fun v x hx hq => ok_b_X12_shares_163 hW k_a0 hx hq) _ _ _ he12 ?_)
    show Rn G mt_X12_shares 187 [(0, .ref a0)] [] (e12, L, R, K) none (M', L, R, K)
    refine rn_aload_n (q := 0) 0 rfl zd_X12_shares_6.2.2.2.1 ?_
    refine rn_getR zf_X12_104 (Or.inr ⟨_, rfl⟩) k_a0 (zx_12_46 hW k_a0) zd_X12_shares_6.2.2.2.2 ?_
    refine rn_bipush (v := 43) zd_X12_shares_7.1.1 rfl ?_
    refine rn_dup2 zd_X12_shares_7.1.2.1 rfl rfl ?_
    refine rn_iald (zw_12_46 hW k_a0) (by decide) zd_X12_shares_7.1.2.2 ?_
    refine rn_iconst (v := 1) zd_X12_shares_7.2.1.1 rfl ?_
    refine rn_iadd zd_X12_shares_7.2.1.2 ?_
    obtain ⟨M13, hM13, h⟩ := zlt_e h
    refine rn_iast hM13 (zw_12_46 hW k_a0) (by decide) zd_X12_shares_7.2.2.1 ?_
    cases h
    exact rn_vret zd_X12_shares_7.2.2.2 rfl
abbrev P_X12_shares_40 (G : zG) (K : zK) (R : zR) (M : zM) (L : zL) (a0 : Nat) (x1 : Int32) (x2 : Int32) (r : Option Value) (S' : zS) (v : Int32 × Int32) : Prop := Rn G mt_X12_shares 40 [(0, .ref a0), (1, .int x1), (2, .int x2), (3, .int v.1), (4, .int v.2)] [] (M, L, R, K) r S'
abbrev Q_X12_shares_40 (G : zG) (K : zK) (R : zR) (M : zM) (L : zL) (a0 : Nat) (x1 : Int32) (x2 : Int32) (r : Option Value) (S' : zS) : (Int32) → Prop := (fun e => Rn G mt_X12_shares 77 [(0, .ref a0), (1, .int x1), (2, .int x2), (3, .int e)] [] (M, L, R, K) r S')
def b_X12_shares_40 (R : zR) (M : zM) (a0 : Nat) (x1 : Int32) (x2 : Int32) (x3 : Int32) (x4 : Int32) : Option ((Int32 × Int32) ⊕ ((Int32))) :=
  if x2 ≤ x4 then (
    some (.inr x3)
  ) else (
    zck (zin ((30 : Int32) + x4) 60) <|
    zck (zin ((30 : Int32) + x3) 60) <|
    if (M (R a0 46) (ztn ((30 : Int32) + x4))) ≤ (M (R a0 46) (ztn ((30 : Int32) + x3))) then (
      some (.inl (x3, (x4 + 1)))
    ) else (
      some (.inl (x4, (x4 + 1)))
    )
  )
set_option maxRecDepth 4000 in
theorem ok_b_X12_shares_40 {G : zG} {K : zK} {R : zR} {M : zM} {L : zL} (hW : zWT R K) {a0 : Nat} {x1 : Int32} {x2 : Int32} {x3 : Int32} {x4 : Int32} (k_a0 : K[a0]? = some (12, 61)) {r : Option Value} {S' : zS} {x : (Int32 × Int32) ⊕ ((Int32))} (h : b_X12_shares_40 R M a0 x1 x2 x3 x4 = some x) (hk : Sum.elim (P_X12_shares_40 G K R M L a0 x1 x2 r S') (Q_X12_shares_40 G K R M L a0 x1 x2 r S') x) : P_X12_shares_40 G K R M L a0 x1 x2 r S' (x3, x4) := by
  show Rn G mt_X12_shares 40 [(0, .ref a0), (1, .int x1), (2, .int x2), (3, .int x3), (4, .int x4)] [] (M, L, R, K) r S'
  unfold b_X12_shares_40 at h
  refine rn_iload 4 rfl zd_X12_shares_1.2.1.1.2 ?_
  refine rn_iload_n (q := 2) 2 rfl zd_X12_shares_1.2.1.2.1 ?_
  rcases zif_e h with ⟨hc23, h⟩ | ⟨hc23, h⟩
  · refine rn_icmp_ge_t (tgt := 77) hc23 zd_X12_shares_1.2.1.2.2 rfl ?_
    cases h
    exact rn_sub (ls' := [(0, .ref a0), (1, .int x1), (2, .int x2), (3, .int x3)]) [0, 1, 2, 3] rfl hk
  · refine rn_icmp_ge_f (tgt := 77) hc23 zd_X12_shares_1.2.1.2.2 rfl ?_
    refine rn_aload_n (q := 0) 0 rfl zd_X12_shares_1.2.2.1.1 ?_
    refine rn_getR zf_X12_104 (Or.inr ⟨_, rfl⟩) k_a0 (zx_12_46 hW k_a0) zd_X12_shares_1.2.2.1.2 ?_
    refine rn_bipush (v := 30) zd_X12_shares_1.2.2.2.1 rfl ?_
    refine rn_iload 4 rfl zd_X12_shares_1.2.2.2.2 ?_
    refine rn_iadd zd_X12_shares_2.1.1.1.1 ?_
    obtain ⟨hc24, h⟩ := zck_e h
    refine rn_iald (zw_12_46 hW k_a0) hc24 zd_X12_shares_2.1.1.1.2 ?_
    refine rn_aload_n (q := 0) 0 rfl zd_X12_shares_2.1.1.2.1 ?_
    refine rn_getR zf_X12_104 (Or.inr ⟨_, rfl⟩) k_a0 (zx_12_46 hW k_a0) zd_X12_shares_2.1.1.2.2 ?_
    refine rn_bipush (v := 30) zd_X12_shares_2.1.2.1.1 rfl ?_
    refine rn_iload_n (q := 3) 3 rfl zd_X12_shares_2.1.2.1.2 ?_
    refine rn_iadd zd_X12_shares_2.1.2.2.1 ?_
    obtain ⟨hc25, h⟩ := zck_e h
    refine rn_iald (zw_12_46 hW k_a0) hc25 zd_X12_shares_2.1.2.2.2 ?_
    rcases zif_e h with ⟨hc26, h⟩ | ⟨hc26, h⟩
    · refine rn_icmp_le_t (tgt := 71) hc26 zd_X12_shares_2.2.1.1.1 rfl ?_
      refine rn_iinc (v := (x4 + 1)) (ls' := [(4, .int (x4 + 1)), (0, .ref a0), (1, .int x1), (2, .int x2), (3, .int x3)]) 4 rfl rfl (by decide) rfl zd_X12_shares_2.2.1.2.2 ?_
      refine rn_goto (tgt := 40) zd_X12_shares_2.2.2.1.1 rfl ?_
      cases h
      exact rn_sub (ls' := [(0, .ref a0), (1, .int x1), (2, .int x2), (3, .int x3), (4, .int (x4 + 1))]) [1, 2, 3, 4, 0] rfl hk
    · refine rn_icmp_le_f (tgt := 71) hc26 zd_X12_shares_2.2.1.1.1 rfl ?_
      refine rn_iload 4 rfl zd_X12_shares_2.2.1.1.2 ?_
      refine rn_istore_n (q := 3) (ls' := [(3, .int x4), (0, .ref a0), (1, .int x1), (2, .int x2), (4, .int x4)]) (by decide) rfl zd_X12_shares_2.2.1.2.1 ?_
      refine rn_iinc (v := (x4 + 1)) (ls' := [(4, .int (x4 + 1)), (3, .int x4), (0, .ref a0), (1, .int x1), (2, .int x2)]) 4 rfl rfl (by decide) rfl zd_X12_shares_2.2.1.2.2 ?_
      refine rn_goto (tgt := 40) zd_X12_shares_2.2.2.1.1 rfl ?_
      cases h
      exact rn_sub (ls' := [(0, .ref a0), (1, .int x1), (2, .int x2), (3, .int x4), (4, .int (x4 + 1))]) [2, 3, 4, 1, 0] rfl hk
def j_X12_shares_31 (R : zR) (M : zM) (a0 : Nat) (x1 : Int32) (x2 : Int32) (s0 : Int32) : Option (zM) :=
  if x1 = (1 : Int32) then (
    zbd (zloop zN (fun v => b_X12_shares_40 R M a0 x1 x2 v.1 v.2) (s0, (1 : Int32))) fun e27 =>
    j_X12_shares_77 R M a0 x1 x2 e27
  ) else (
    j_X12_shares_77 R M a0 x1 x2 s0
  )
set_option maxRecDepth 4000 in
theorem ok_j_X12_shares_31 {G : zG} {K : zK} {R : zR} {M : zM} {L : zL} (hW : zWT R K) {a0 : Nat} {x1 : Int32} {x2 : Int32} {s0 : Int32} (k_a0 : K[a0]? = some (12, 61)) {M' : zM} (h : j_X12_shares_31 R M a0 x1 x2 s0 = some M') : Rn G mt_X12_shares 31 [(0, .ref a0), (1, .int x1), (2, .int x2)] [.int s0] (M, L, R, K) none (M', L, R, K) := by
  unfold j_X12_shares_31 at h
  refine rn_istore_n (q := 3) (ls' := [(3, .int s0), (0, .ref a0), (1, .int x1), (2, .int x2)]) (by decide) rfl zd_X12_shares_1.1.1.2.2 ?_
  refine rn_iload_n (q := 1) 2 rfl zd_X12_shares_1.1.2.1.1 ?_
  refine rn_iconst (v := 1) zd_X12_shares_1.1.2.1.2 rfl ?_
  rcases zif_e h with ⟨hc3, h⟩ | ⟨hc3, h⟩
  · refine rn_icmp_ne_f (tgt := 77) hc3 zd_X12_shares_1.1.2.2.1 rfl ?_
    refine rn_iconst (v := 1) zd_X12_shares_1.1.2.2.2 rfl ?_
    refine rn_istore (ls' := [(4, .int (1 : Int32)), (3, .int s0), (0, .ref a0), (1, .int x1), (2, .int x2)]) (by decide) rfl zd_X12_shares_1.2.1.1.1 ?_
    obtain ⟨e27, he27, h⟩ := zbd_e h
    refine rn_sub (ls' := [(0, .ref a0), (1, .int x1), (2, .int x2), (3, .int s0), (4, .int (1 : Int32))]) [2, 3, 4, 1, 0] rfl (zloop_ok (P := P_X12_shares_40 G K R M L a0 x1 x2 none (M', L, R, K)) (Q := Q_X12_shares_40 G K R M L a0 x1 x2 none (M', L, R, K)) (fun v x hx hq => ok_b_X12_shares_40 hW k_a0 hx hq) _ _ _ he27 ?_)
    show Rn G mt_X12_shares 77 [(0, .ref a0), (1, .int x1), (2, .int x2), (3, .int e27)] [] (M, L, R, K) none (M', L, R, K)
    exact rn_sub (ls' := [(0, .ref a0), (1, .int x1), (2, .int x2), (3, .int e27)]) [0, 1, 2, 3] rfl (ok_j_X12_shares_77 hW k_a0 h)
  · refine rn_icmp_ne_t (tgt := 77) hc3 zd_X12_shares_1.1.2.2.1 rfl ?_
    exact rn_sub (ls' := [(0, .ref a0), (1, .int x1), (2, .int x2), (3, .int s0)]) [1, 2, 3, 0] rfl (ok_j_X12_shares_77 hW k_a0 h)
def f_X12_shares (R : zR) (M : zM) (a0 : Nat) (x1 : Int32) : Option (zM) :=
  if (M (R a0 46) (ztn (40 : Int32))) = 0 then (
    some M
  ) else (
    if x1 = (2 : Int32) then (
      zck (znz (M (R a0 46) (ztn (40 : Int32)))) <|
      j_X12_shares_31 R M a0 x1 (M (R a0 46) (ztn (40 : Int32))) ((M (R a0 46) (ztn (43 : Int32))) - (M (R a0 46) (ztn (43 : Int32))) / (M (R a0 46) (ztn (40 : Int32))) * (M (R a0 46) (ztn (40 : Int32))))
    ) else (
      j_X12_shares_31 R M a0 x1 (M (R a0 46) (ztn (40 : Int32))) (0 : Int32)
    )
  )
set_option maxRecDepth 4000 in
theorem ok_X12_shares {G : zG} {K : zK} {R : zR} {M : zM} {L : zL} (hW : zWT R K) {a0 : Nat} {x1 : Int32} (k_a0 : K[a0]? = some (12, 61)) {M' : zM} (h : f_X12_shares R M a0 x1 = some M') : Rm G mt_X12_shares [.ref a0, .int x1] (M, L, R, K) none (M', L, R, K) := by
  refine rm_rn rfl rfl (Nat.le_of_ble_eq_true rfl) ?_
  show Rn G mt_X12_shares 0 [(0, .ref a0), (1, .int x1)] [] (M, L, R, K) none (M', L, R, K)
  unfold f_X12_shares at h
  refine rn_aload_n (q := 0) 0 rfl zd_X12_shares_0.1.1.1.1 ?_
  refine rn_getR zf_X12_104 (Or.inr ⟨_, rfl⟩) k_a0 (zx_12_46 hW k_a0) zd_X12_shares_0.1.1.1.2 ?_
  refine rn_bipush (v := 40) zd_X12_shares_0.1.1.2.1 rfl ?_
  refine rn_iald (zw_12_46 hW k_a0) (by decide) zd_X12_shares_0.1.1.2.2 ?_
  refine rn_istore_n (q := 2) (ls' := [(2, .int (M (R a0 46) (ztn (40 : Int32)))), (0, .ref a0), (1, .int x1)]) (by decide) rfl zd_X12_shares_0.1.2.1.1 ?_
  refine rn_iload_n (q := 2) 0 rfl zd_X12_shares_0.1.2.1.2 ?_
  rcases zif_e h with ⟨hc1, h⟩ | ⟨hc1, h⟩
  · refine rn_if_ne_f (tgt := 13) hc1 zd_X12_shares_0.1.2.2.1 rfl ?_
    cases h
    exact rn_vret zd_X12_shares_0.1.2.2.2 rfl
  · refine rn_if_ne_t (tgt := 13) hc1 zd_X12_shares_0.1.2.2.1 rfl ?_
    refine rn_iload_n (q := 1) 2 rfl zd_X12_shares_0.2.1.1.1 ?_
    refine rn_iconst (v := 2) zd_X12_shares_0.2.1.1.2 rfl ?_
    rcases zif_e h with ⟨hc2, h⟩ | ⟨hc2, h⟩
    · refine rn_icmp_ne_f (tgt := 30) hc2 zd_X12_shares_0.2.1.2.1 rfl ?_
      refine rn_aload_n (q := 0) 1 rfl zd_X12_shares_0.2.1.2.2 ?_
      refine rn_getR zf_X12_104 (Or.inr ⟨_, rfl⟩) k_a0 (zx_12_46 hW k_a0) zd_X12_shares_0.2.2.1.1 ?_
      refine rn_bipush (v := 43) zd_X12_shares_0.2.2.1.2 rfl ?_
      refine rn_iald (zw_12_46 hW k_a0) (by decide) zd_X12_shares_0.2.2.2.1 ?_
      refine rn_iload_n (q := 2) 0 rfl zd_X12_shares_0.2.2.2.2 ?_
      obtain ⟨hc28, h⟩ := zck_e h
      refine rn_irem zd_X12_shares_1.1.1.1.1 (znz_e hc28) ?_
      refine rn_goto (tgt := 31) zd_X12_shares_1.1.1.1.2 rfl ?_
      exact rn_sub (ls' := [(0, .ref a0), (1, .int x1), (2, .int (M (R a0 46) (ztn (40 : Int32))))]) [1, 2, 0] rfl (ok_j_X12_shares_31 hW k_a0 h)
    · refine rn_icmp_ne_t (tgt := 30) hc2 zd_X12_shares_0.2.1.2.1 rfl ?_
      refine rn_iconst (v := 0) zd_X12_shares_1.1.1.2.1 rfl ?_
      exact rn_sub (ls' := [(0, .ref a0), (1, .int x1), (2, .int (M (R a0 46) (ztn (40 : Int32))))]) [1, 2, 0] rfl (ok_j_X12_shares_31 hW k_a0 h)
def f_X12_ends (R : zR) (M : zM) (a0 : Nat) (x1 : Int32) : Option (zM) :=
  zlt (zup M (R a0 46) (ztn (42 : Int32)) ((M (R a0 46) (ztn (42 : Int32))) + (1 : Int32))) fun M1 =>
  zck (zin (M1 a0 18) 2) <|
  zck (znz (M1 (R a0 27) (ztn (M1 a0 18)))) <|
  if ((M1 (R a0 46) (ztn (42 : Int32))) - (M1 (R a0 46) (ztn (42 : Int32))) / (M1 (R a0 27) (ztn (M1 a0 18))) * (M1 (R a0 27) (ztn (M1 a0 18)))) = 0 then (
    zbd (f_X12_shares R M1 a0 x1) fun M5 =>
    some M5
  ) else (
    some M1
  )
set_option maxRecDepth 4000 in
theorem ok_X12_ends {G : zG} {K : zK} {R : zR} {M : zM} {L : zL} (hW : zWT R K) {a0 : Nat} {x1 : Int32} (k_a0 : K[a0]? = some (12, 61)) {M' : zM} (h : f_X12_ends R M a0 x1 = some M') : Rm G mt_X12_ends [.ref a0, .int x1] (M, L, R, K) none (M', L, R, K) := by
  refine rm_rn rfl rfl (Nat.le_of_ble_eq_true rfl) ?_
  show Rn G mt_X12_ends 0 [(0, .ref a0), (1, .int x1)] [] (M, L, R, K) none (M', L, R, K)
  unfold f_X12_ends at h
  refine rn_aload_n (q := 0) 0 rfl zd_X12_ends_0.1.1.1.1 ?_
  refine rn_getR zf_X12_104 (Or.inr ⟨_, rfl⟩) k_a0 (zx_12_46 hW k_a0) zd_X12_ends_0.1.1.1.2 ?_
  refine rn_bipush (v := 42) zd_X12_ends_0.1.1.2.1 rfl ?_
  refine rn_dup2 zd_X12_ends_0.1.1.2.2 rfl rfl ?_
  refine rn_iald (zw_12_46 hW k_a0) (by decide) zd_X12_ends_0.1.2.1.1 ?_
  refine rn_iconst (v := 1) zd_X12_ends_0.1.2.1.2 rfl ?_
  refine rn_iadd zd_X12_ends_0.1.2.2.1 ?_
  obtain ⟨M1, hM1, h⟩ := zlt_e h
  refine rn_iast hM1 (zw_12_46 hW k_a0) (by decide) zd_X12_ends_0.1.2.2.2 ?_
  refine rn_aload_n (q := 0) 0 rfl zd_X12_ends_0.2.1.1.1 ?_
  refine rn_getR zf_X12_104 (Or.inr ⟨_, rfl⟩) k_a0 (zx_12_46 hW k_a0) zd_X12_ends_0.2.1.1.2 ?_
  refine rn_bipush (v := 42) zd_X12_ends_0.2.1.2.1 rfl ?_
  refine rn_iald (zw_12_46 hW k_a0) (by decide) zd_X12_ends_0.2.1.2.2 ?_
  refine rn_aload_n (q := 0) 0 rfl zd_X12_ends_0.2.2.1.1 ?_
  refine rn_getR zf_X12_59 (Or.inr ⟨_, rfl⟩) k_a0 (zx_12_27 hW k_a0) zd_X12_ends_0.2.2.1.2 ?_
  refine rn_aload_n (q := 0) 0 rfl zd_X12_ends_0.2.2.2.1 ?_
  refine rn_getI zf_X12_212 (Or.inl rfl) k_a0 zd_X12_ends_0.2.2.2.2 ?_
  obtain ⟨hc2, h⟩ := zck_e h
  refine rn_iald (zw_12_27 hW k_a0) hc2 zd_X12_ends_1.1.1 ?_
  obtain ⟨hc3, h⟩ := zck_e h
  refine rn_irem zd_X12_ends_1.1.2.1 (znz_e hc3) ?_
  rcases zif_e h with ⟨hc4, h⟩ | ⟨hc4, h⟩
  · refine rn_if_ne_f (tgt := 36) hc4 zd_X12_ends_1.1.2.2 rfl ?_
    refine rn_aload_n (q := 0) 0 rfl zd_X12_ends_1.2.1.1 ?_
    refine rn_iload_n (q := 1) 1 rfl zd_X12_ends_1.2.1.2 ?_
    obtain ⟨M5, h6, h⟩ := zbd_e h
    refine rn_callVv (As := [.int x1]) (rest := []) zl_X12_309 zm_X12_shares ⟨by decide, by decide⟩ (ci := 12) rfl rfl (by decide) k_a0 rfl rfl (Nat.le_of_ble_eq_true rfl) zd_X12_ends_1.2.2.1 (ok_X12_shares hW k_a0 h6) ?_
    cases h
    exact rn_vret zd_X12_ends_1.2.2.2 rfl
  · refine rn_if_ne_t (tgt := 36) hc4 zd_X12_ends_1.1.2.2 rfl ?_
    cases h
    exact rn_vret zd_X12_ends_1.2.2.2 rfl

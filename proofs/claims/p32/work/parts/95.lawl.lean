/-! THE LAW: the loop -/
def zLS (G : zG) (R : zR) (M : zM) (L : zL) (c : Nat) : Prop := zWT R KF ∧ zLk L ∧ zNv R M (3000000 * c) (300 * c) ∧ zFl M
theorem zLk.eqL {L L1 : zL} (h : zLk L) (e : ∀ b, b < 13 ∨ 242 ≤ b → L1 b = L b) : zLk L1 := ⟨fun k hk => by rw [e 10 (by omega)]; exact h.1 k hk, fun k hk => by rw [e 249 (by omega)]; exact h.2 k hk⟩
theorem zNv.md {R : zR} {M : zM} {T S : Nat} (h : zNv R M T S) : zMd R := by
  obtain ⟨-, ⟨q, ru, C⟩, -⟩ := h
  exact C.1.1
theorem zwt_sw {R : zR} {q : Nat} (hq : q = 218 ∨ q = 230) (hW : zWT R KF) : zWT (zupR (zupR R 2 8 (448 - q)) 2 9 q) KF := by
  have ka : KF[448 - q]? = some (7, 11) := by rcases hq with rfl | rfl; exact kf_230; exact kf_218
  have kb : KF[q]? = some (7, 11) := by rcases hq with rfl | rfl; exact kf_218; exact kf_230
  exact zwt_up (zwt_up hW kf_2 (by decide) (kd := (7, 11)) (k := 8) rfl ka rfl) kf_2 (by decide) (kd := (7, 11)) (k := 9) rfl kb rfl
theorem and31 (x : Int32) : ∃ k, k < 32 ∧ x &&& 31 = nI k := by
  obtain ⟨j, hj, e⟩ := pk_andE x (m := 31) 5 (by decide)
  exact ⟨j, by omega, e⟩
theorem zle6 {n i : Nat} (hn : n ≤ 3072) (hi : i ≤ 3078) : (Int32.ofNat n - 6 < nI i ↔ n < i + 6) := by
  by_cases c : 6 ≤ n
  · rw [show Int32.ofNat n - 6 = nI (n - 6) from nI_sub c]
    constructor
    · intro h
      rcases Nat.lt_or_ge (n - 6) i with z | z
      · omega
      · exact absurd h (nI_nlt z (by omega))
    · intro h
      exact nI_lt (by omega) (by omega)
  · refine ⟨fun _ => by omega, fun _ => ?_⟩
    have h0 : Int32.ofNat n - 6 < 0 := by
      have : n = 0 ∨ n = 1 ∨ n = 2 ∨ n = 3 ∨ n = 4 ∨ n = 5 := by omega
      rcases this with rfl | rfl | rfl | rfl | rfl | rfl <;> decide
    exact Int32.lt_of_lt_of_le h0 (nI_pos' (by omega))
theorem lw_case {G : zG} (hn : zGn G ≤ 3072) {c : Nat} (hc : 6 * c + 6 ≤ zGn G) {R : zR} {M : zM} {L : zL} (h : zLS G R M L c) : ∃ R1 M1 L1, zLS G R1 M1 L1 (c + 1) ∧ ∀ r S', Rn G mt_L 1138 [(0, .ref 1), (1, .ref 2), (2, .ref 242), (3, .int (nI (6 * c)))] [] (M1, L1, R1, KF) r S' → Rn G mt_L 33 [(0, .ref 1), (1, .ref 2), (2, .ref 242), (3, .int (nI (6 * c)))] [.int (zGx G (ztn (nI (6 * c))) &&& 31)] (M, L, R, KF) r S' := by
  obtain ⟨hW, hL, hs, hfl⟩ := h
  have hT : 3000000 * c + 3100000 < 2147483648 := by omega
  have hS : 300 * c + 400 < 2147483648 := by omega
  have eT : 3000000 * (c + 1) = 3000000 * c + 3000000 := by omega
  have eS : 300 * (c + 1) = 300 * c + 300 := by omega
  have hz : ∀ j, j < 6 → zin (nI (6 * c) + nI j) (zGn G) = true := fun j hj => by
    rw [nI_add]
    exact zin_nI (by omega) (by omega)
  have h1 := hz 1 (by decide)
  have h2 := hz 2 (by decide)
  have h3 := hz 3 (by decide)
  have h4 := hz 4 (by decide)
  have h5 := hz 5 (by decide)
  obtain ⟨k, hk, ek⟩ := and31 (zGx G (ztn (nI (6 * c))))
  rw [ek]
  generalize nI (6 * c) = x3 at h1 h2 h3 h4 h5 ⊢
  unfold zLS
  rw [eT, eS]
  have hk2 : k = 0 ∨ k = 1 ∨ k = 2 ∨ k = 3 ∨ k = 4 ∨ k = 5 ∨ k = 6 ∨ k = 7 ∨ k = 8 ∨ k = 9 ∨ k = 10 ∨ k = 11 ∨ k = 12 ∨ k = 13 ∨ k = 14 ∨ k = 15 ∨ k = 16 ∨ k = 17 ∨ k = 18 ∨ k = 19 ∨ k = 20 ∨ k = 21 ∨ k = 22 ∨ k = 23 ∨ k = 24 ∨ k = 25 ∨ k = 26 ∨ k = 27 ∨ k = 28 ∨ k = 29 ∨ k = 30 ∨ k = 31 := by omega
  rcases hk2 with rfl | rfl | rfl | rfl | rfl | rfl | rfl | rfl | rfl | rfl | rfl | rfl | rfl | rfl | rfl | rfl | rfl | rfl | rfl | rfl | rfl | rfl | rfl | rfl | rfl | rfl | rfl | rfl | rfl | rfl | rfl | rfl
  · obtain ⟨⟨v, M1⟩, ha, hf, ⟨w, M2⟩, hb, hv, ho, hlo⟩ := c_feed hs (zGx G (ztn (x3 + 1))) (zGx G (ztn (x3 + 2))) (zGx G (ztn (x3 + 3))) (zGx G (ztn (x3 + 4))) (zGx G (ztn (x3 + 5)))
    dsimp only at hf hb hv ho hlo
    subst hv
    refine ⟨R, M2, L, ⟨hW, hL, ho, hfl.go (fun k => (congrFun (hlo 21 (by omega)) k).trans (hf.1 k)) ((fl_feed hs.md hb).trans hf.2)⟩, fun r S' k => ?_⟩
    refine rn_tblIn (v := 0) (tgt := 176) zd_L_law_1.1.2.1.2 rfl (by decide) (by decide) rfl rfl ?_
    exact lw_0 hW kf_2 kf_242 h1 h2 h3 h4 h5 ha hb k
  · obtain ⟨⟨v, M1⟩, ha, hf, ⟨w, M2⟩, hb, hv, ho, hlo⟩ := c_back hs (zGx G (ztn (x3 + 1)))
    dsimp only at hf hb hv ho hlo
    subst hv
    refine ⟨R, M2, L, ⟨hW, hL, ho, hfl.go (fun k => (congrFun (hlo 21 (by omega)) k).trans (hf.1 k)) ((fl_back hs.md hb).trans hf.2)⟩, fun r S' k => ?_⟩
    refine rn_tblIn (v := 1) (tgt := 239) zd_L_law_1.1.2.1.2 rfl (by decide) (by decide) rfl rfl ?_
    exact lw_1 hW kf_2 kf_242 h1 h2 h3 h4 h5 ha hb k
  · obtain ⟨⟨v, R1, M1, L1⟩, ha, hR, hf, ⟨w, M2, L2⟩, hb, hv, ho, hk, hlo⟩ := c_read hs hL
    dsimp only at hR hf hb hv ho hk hlo
    subst hv
    have hW1 : zWT R1 KF := by
      rcases hR with e | ⟨q, hq, e⟩
      · rw [e]
        exact hW
      · rw [e]
        exact zwt_sw hq hW
    refine ⟨R1, M2, L2, ⟨hW1, hk, ho, hlo.2 hfl⟩, fun r S' k => ?_⟩
    refine rn_tblIn (v := 2) (tgt := 262) zd_L_law_1.1.2.1.2 rfl (by decide) (by decide) rfl rfl ?_
    exact lw_2 hW hW1 kf_2 kf_242 h1 h2 h3 h4 h5 ha hb k
  · obtain ⟨v, ha, w, hb, hv, ho⟩ := c_place hs
    subst hv
    refine ⟨R, M, L, ⟨hW, hL, ho, hfl⟩, fun r S' k => ?_⟩
    refine rn_tblIn (v := 3) (tgt := 275) zd_L_law_1.1.2.1.2 rfl (by decide) (by decide) rfl rfl ?_
    exact lw_3 hW kf_2 kf_242 h1 h2 h3 h4 h5 ha hb k
  · obtain ⟨⟨v, M1⟩, ha, hf, ⟨w, M2⟩, hb, ho, hlo⟩ := c_house hs hT hS L (zGx G (ztn (x3 + 1))) (zGx G (ztn (x3 + 2)))
    dsimp only at hf hb ho hlo
    refine ⟨R, M2, L, ⟨hW, hL, ho, hfl.go (fun k => (congrFun (hlo 21 (by omega)) k).trans (hf.1 k)) ((fl_house hs.md hb).trans hf.2)⟩, fun r S' k => ?_⟩
    refine rn_tblIn (v := 4) (tgt := 288) zd_L_law_1.1.2.1.2 rfl (by decide) (by decide) rfl rfl ?_
    exact lw_4 hW kf_2 kf_242 h1 h2 h3 h4 h5 ha hb k
  · obtain ⟨⟨v, M1, L1⟩, ha, hl, hf, ⟨w, M2⟩, hb, ho, hlo⟩ := c_run hs hT hS L (zGx G (ztn (x3 + 1)))
    dsimp only at hl hf hb ho hlo
    refine ⟨R, M2, L1, ⟨hW, hL.eqL hl, ho, hfl.go (fun k => (congrFun (hlo 21 (by omega)) k).trans (hf.1 k)) ((fl_run hs.md hb).trans hf.2)⟩, fun r S' k => ?_⟩
    refine rn_tblIn (v := 5) (tgt := 321) zd_L_law_1.1.2.1.2 rfl (by decide) (by decide) rfl rfl ?_
    exact lw_5 hW kf_2 kf_242 h1 h2 h3 h4 h5 ha hb k
  · obtain ⟨⟨v, M1, L1⟩, ha, hl, hf, ⟨w, M2⟩, hb, ho, hlo⟩ := c_give hs hT hS L (zGx G (ztn (x3 + 1))) (zGx G (ztn (x3 + 2))) (zGx G (ztn (x3 + 3)))
    dsimp only at hl hf hb ho hlo
    refine ⟨R, M2, L1, ⟨hW, hL.eqL hl, ho, hfl.go (fun k => (congrFun (hlo 21 (by omega)) k).trans (hf.1 k)) ((fl_give hs.md hb).trans hf.2)⟩, fun r S' k => ?_⟩
    refine rn_tblIn (v := 6) (tgt := 344) zd_L_law_1.1.2.1.2 rfl (by decide) (by decide) rfl rfl ?_
    exact lw_6 hW kf_2 kf_242 h1 h2 h3 h4 h5 ha hb k
  · obtain ⟨⟨v, M1, L1⟩, ha, hl, hf, ⟨w, M2⟩, hb, ho, hlo⟩ := c_hide hs hT hS L (zGx G (ztn (x3 + 1))) (zGx G (ztn (x3 + 2)))
    dsimp only at hl hf hb ho hlo
    refine ⟨R, M2, L1, ⟨hW, hL.eqL hl, ho, hfl.go (fun k => (congrFun (hlo 21 (by omega)) k).trans (hf.1 k)) ((fl_hide hs.md hb).trans hf.2)⟩, fun r S' k => ?_⟩
    refine rn_tblIn (v := 7) (tgt := 387) zd_L_law_1.1.2.1.2 rfl (by decide) (by decide) rfl rfl ?_
    exact lw_7 hW kf_2 kf_242 h1 h2 h3 h4 h5 ha hb k
  · obtain ⟨⟨v, M1, L1⟩, ha, hl, hf, ⟨w, M2⟩, hb, ho, hlo⟩ := c_grab hs hT hS L (zGx G (ztn (x3 + 1)))
    dsimp only at hl hf hb ho hlo
    refine ⟨R, M2, L1, ⟨hW, hL.eqL hl, ho, hfl.go (fun k => (congrFun (hlo 21 (by omega)) k).trans (hf.1 k)) ((fl_grab hs.md hb).trans hf.2)⟩, fun r S' k => ?_⟩
    refine rn_tblIn (v := 8) (tgt := 420) zd_L_law_1.1.2.1.2 rfl (by decide) (by decide) rfl rfl ?_
    exact lw_8 hW kf_2 kf_242 h1 h2 h3 h4 h5 ha hb k
  · obtain ⟨⟨v, M1, L1⟩, ha, hl, hf, ⟨w, M2⟩, hb, ho, hlo⟩ := c_build hs hT hS L (zGx G (ztn (x3 + 1))) (zGx G (ztn (x3 + 2)))
    dsimp only at hl hf hb ho hlo
    refine ⟨R, M2, L1, ⟨hW, hL.eqL hl, ho, hfl.go (fun k => (congrFun (hlo 21 (by omega)) k).trans (hf.1 k)) ((fl_build hs.md hb).trans hf.2)⟩, fun r S' k => ?_⟩
    refine rn_tblIn (v := 9) (tgt := 443) zd_L_law_1.1.2.1.2 rfl (by decide) (by decide) rfl rfl ?_
    exact lw_9 hW kf_2 kf_242 h1 h2 h3 h4 h5 ha hb k
  · obtain ⟨⟨v, M1, L1⟩, ha, hl, hf, ⟨w, M2⟩, hb, ho, hlo⟩ := c_burn hs hT hS L (zGx G (ztn (x3 + 1)))
    dsimp only at hl hf hb ho hlo
    refine ⟨R, M2, L1, ⟨hW, hL.eqL hl, ho, hfl.go (fun k => (congrFun (hlo 21 (by omega)) k).trans (hf.1 k)) ((fl_burn hs.md hb).trans hf.2)⟩, fun r S' k => ?_⟩
    refine rn_tblIn (v := 10) (tgt := 476) zd_L_law_1.1.2.1.2 rfl (by decide) (by decide) rfl rfl ?_
    exact lw_10 hW kf_2 kf_242 h1 h2 h3 h4 h5 ha hb k
  · obtain ⟨⟨v, M1, L1⟩, ha, hl, hf, ⟨w, M2⟩, hb, ho, hlo⟩ := c_join hs hT hS L (zGx G (ztn (x3 + 1)))
    dsimp only at hl hf hb ho hlo
    refine ⟨R, M2, L1, ⟨hW, hL.eqL hl, ho, hfl.go (fun k => (congrFun (hlo 21 (by omega)) k).trans (hf.1 k)) ((fl_join hs.md hb).trans hf.2)⟩, fun r S' k => ?_⟩
    refine rn_tblIn (v := 11) (tgt := 499) zd_L_law_1.1.2.1.2 rfl (by decide) (by decide) rfl rfl ?_
    exact lw_11 hW kf_2 kf_242 h1 h2 h3 h4 h5 ha hb k
  · obtain ⟨⟨v, M1, L1⟩, ha, hl, hf, ⟨w, M2⟩, hb, ho, hlo⟩ := c_undo hs hT hS L
    dsimp only at hl hf hb ho hlo
    refine ⟨R, M2, L1, ⟨hW, hL.eqL hl, ho, hfl.go (fun k => (congrFun (hlo 21 (by omega)) k).trans (hf.1 k)) ((fl_undo hs.md hb).trans hf.2)⟩, fun r S' k => ?_⟩
    refine rn_tblIn (v := 12) (tgt := 522) zd_L_law_1.1.2.1.2 rfl (by decide) (by decide) rfl rfl ?_
    exact lw_12 hW kf_2 kf_242 h1 h2 h3 h4 h5 ha hb k
  · obtain ⟨⟨v, M1, L1⟩, ha, hl, hf, ⟨w, M2⟩, hb, ho, hlo⟩ := c_becomes hs hT hS L (zGx G (ztn (x3 + 1)))
    dsimp only at hl hf hb ho hlo
    refine ⟨R, M2, L1, ⟨hW, hL.eqL hl, ho, hfl.go (fun k => (congrFun (hlo 21 (by omega)) k).trans (hf.1 k)) ((fl_becomes hs.md hb).trans hf.2)⟩, fun r S' k => ?_⟩
    refine rn_tblIn (v := 13) (tgt := 535) zd_L_law_1.1.2.1.2 rfl (by decide) (by decide) rfl rfl ?_
    exact lw_13 hW kf_2 kf_242 h1 h2 h3 h4 h5 ha hb k
  · obtain ⟨⟨v, M1, L1⟩, ha, hl, hf, ⟨w, M2⟩, hb, ho, hlo⟩ := c_apart hs hT hS L (zGx G (ztn (x3 + 1)))
    dsimp only at hl hf hb ho hlo
    refine ⟨R, M2, L1, ⟨hW, hL.eqL hl, ho, hfl.go (fun k => (congrFun (hlo 21 (by omega)) k).trans (hf.1 k)) ((fl_apart hs.md hb).trans hf.2)⟩, fun r S' k => ?_⟩
    refine rn_tblIn (v := 14) (tgt := 558) zd_L_law_1.1.2.1.2 rfl (by decide) (by decide) rfl rfl ?_
    exact lw_14 hW kf_2 kf_242 h1 h2 h3 h4 h5 ha hb k
  · obtain ⟨⟨v, M1, L1⟩, ha, hl, hf, ⟨w, M2⟩, hb, ho, hlo⟩ := c_even hs hT hS L (zGx G (ztn (x3 + 1))) (zGx G (ztn (x3 + 2)))
    dsimp only at hl hf hb ho hlo
    refine ⟨R, M2, L1, ⟨hW, hL.eqL hl, ho, hfl.go (fun k => (congrFun (hlo 21 (by omega)) k).trans (hf.1 k)) ((fl_even hs.md hb).trans hf.2)⟩, fun r S' k => ?_⟩
    refine rn_tblIn (v := 15) (tgt := 581) zd_L_law_1.1.2.1.2 rfl (by decide) (by decide) rfl rfl ?_
    exact lw_15 hW kf_2 kf_242 h1 h2 h3 h4 h5 ha hb k
  · obtain ⟨⟨v, M1, L1⟩, ha, hl, hf, ⟨w, M2⟩, hb, ho, hlo⟩ := c_soonest hs hT hS L (zGx G (ztn (x3 + 1)))
    dsimp only at hl hf hb ho hlo
    refine ⟨R, M2, L1, ⟨hW, hL.eqL hl, ho, hfl.go (fun k => (congrFun (hlo 21 (by omega)) k).trans (hf.1 k)) ((fl_soonest hs.md hb).trans hf.2)⟩, fun r S' k => ?_⟩
    refine rn_tblIn (v := 16) (tgt := 614) zd_L_law_1.1.2.1.2 rfl (by decide) (by decide) rfl rfl ?_
    exact lw_16 hW kf_2 kf_242 h1 h2 h3 h4 h5 ha hb k
  · obtain ⟨⟨v, M1, L1⟩, ha, hl, hf, ⟨w, M2⟩, hb, ho, hlo⟩ := c_start hs hT hS L (zGx G (ztn (x3 + 1))) (zGx G (ztn (x3 + 2)))
    dsimp only at hl hf hb ho hlo
    refine ⟨R, M2, L1, ⟨hW, hL.eqL hl, ho, hfl.go (fun k => (congrFun (hlo 21 (by omega)) k).trans (hf.1 k)) ((fl_start hs.md hb).trans hf.2)⟩, fun r S' k => ?_⟩
    refine rn_tblIn (v := 17) (tgt := 637) zd_L_law_1.1.2.1.2 rfl (by decide) (by decide) rfl rfl ?_
    exact lw_17 hW kf_2 kf_242 h1 h2 h3 h4 h5 ha hb k
  · obtain ⟨⟨v, M1, L1⟩, ha, hl, hf, ⟨w, M2⟩, hb, ho, hlo⟩ := c_wealth hs hT hS L (zGx G (ztn (x3 + 1))) (zGx G (ztn (x3 + 2))) (zGx G (ztn (x3 + 3)))
    dsimp only at hl hf hb ho hlo
    refine ⟨R, M2, L1, ⟨hW, hL.eqL hl, ho, hfl.go (fun k => (congrFun (hlo 21 (by omega)) k).trans (hf.1 k)) ((fl_wealth hs.md hb).trans hf.2)⟩, fun r S' k => ?_⟩
    refine rn_tblIn (v := 18) (tgt := 670) zd_L_law_1.1.2.1.2 rfl (by decide) (by decide) rfl rfl ?_
    exact lw_18 hW kf_2 kf_242 h1 h2 h3 h4 h5 ha hb k
  · obtain ⟨⟨v, M1, L1⟩, ha, hl, hf, ⟨w, M2⟩, hb, ho, hlo⟩ := c_free hs hT hS L (zGx G (ztn (x3 + 1))) (zGx G (ztn (x3 + 2)))
    dsimp only at hl hf hb ho hlo
    refine ⟨R, M2, L1, ⟨hW, hL.eqL hl, ho, hfl.go (fun k => (congrFun (hlo 21 (by omega)) k).trans (hf.1 k)) ((fl_free hs.md hb).trans hf.2)⟩, fun r S' k => ?_⟩
    refine rn_tblIn (v := 19) (tgt := 713) zd_L_law_1.1.2.1.2 rfl (by decide) (by decide) rfl rfl ?_
    exact lw_19 hW kf_2 kf_242 h1 h2 h3 h4 h5 ha hb k
  · obtain ⟨⟨v, M1, L1⟩, ha, hl, hf, ⟨w, M2⟩, hb, ho, hlo⟩ := c_best hs hT hS L (zGx G (ztn (x3 + 1))) (zGx G (ztn (x3 + 2))) (zGx G (ztn (x3 + 3))) (zGx G (ztn (x3 + 4)))
    dsimp only at hl hf hb ho hlo
    refine ⟨R, M2, L1, ⟨hW, hL.eqL hl, ho, hfl.go (fun k => (congrFun (hlo 21 (by omega)) k).trans (hf.1 k)) ((fl_best hs.md hb).trans hf.2)⟩, fun r S' k => ?_⟩
    refine rn_tblIn (v := 20) (tgt := 746) zd_L_law_1.1.2.1.2 rfl (by decide) (by decide) rfl rfl ?_
    exact lw_20 hW kf_2 kf_242 h1 h2 h3 h4 h5 ha hb k
  · obtain ⟨⟨v, M1, L1⟩, ha, hl, hf, ⟨w, M2⟩, hb, ho, hlo⟩ := c_loan hs hT hS L (zGx G (ztn (x3 + 1))) (zGx G (ztn (x3 + 2))) (zGx G (ztn (x3 + 3))) (if zGx G (ztn (x3 + 4)) = 0 then 0 else 1)
    dsimp only at hl hf hb ho hlo
    refine ⟨R, M2, L1, ⟨hW, hL.eqL hl, ho, hfl.go (fun k => (congrFun (hlo 21 (by omega)) k).trans (hf.1 k)) ((fl_loan hs.md hb).trans hf.2)⟩, fun r S' k => ?_⟩
    refine rn_tblIn (v := 21) (tgt := 799) zd_L_law_1.1.2.1.2 rfl (by decide) (by decide) rfl rfl ?_
    exact lw_21 hW kf_2 kf_242 h1 h2 h3 h4 h5 ha hb k
  · obtain ⟨⟨v, M1, L1⟩, ha, hl, hf, ⟨w, M2⟩, hb, ho, hlo⟩ := c_site hs hT hS L (zGx G (ztn (x3 + 1)))
    dsimp only at hl hf hb ho hlo
    refine ⟨R, M2, L1, ⟨hW, hL.eqL hl, ho, hfl.go (fun k => (congrFun (hlo 21 (by omega)) k).trans (hf.1 k)) ((fl_site hs.md hb).trans hf.2)⟩, fun r S' k => ?_⟩
    refine rn_tblIn (v := 22) (tgt := 868) zd_L_law_1.1.2.1.2 rfl (by decide) (by decide) rfl rfl ?_
    exact lw_22 hW kf_2 kf_242 h1 h2 h3 h4 h5 ha hb k
  · obtain ⟨⟨v, M1, L1⟩, ha, hl, hf, ⟨w, M2⟩, hb, ho, hlo⟩ := c_rests hs hT hS L (zGx G (ztn (x3 + 1))) (zGx G (ztn (x3 + 2)))
    dsimp only at hl hf hb ho hlo
    refine ⟨R, M2, L1, ⟨hW, hL.eqL hl, ho, hfl.go (fun k => (congrFun (hlo 21 (by omega)) k).trans (hf.1 k)) ((fl_rests hs.md hb).trans hf.2)⟩, fun r S' k => ?_⟩
    refine rn_tblIn (v := 23) (tgt := 891) zd_L_law_1.1.2.1.2 rfl (by decide) (by decide) rfl rfl ?_
    exact lw_23 hW kf_2 kf_242 h1 h2 h3 h4 h5 ha hb k
  · obtain ⟨⟨v, M1⟩, ha, hf, ⟨w, M2⟩, hb, ho, hlo⟩ := c_tell hs (zGx G (ztn (x3 + 1))) (zGx G (ztn (x3 + 2)))
    dsimp only at hf hb ho hlo
    refine ⟨R, M2, L, ⟨hW, hL, ho, hfl.go (fun k => (congrFun (hlo 21 (by omega)) k).trans (hf.1 k)) ((fl_tell hs.md hb).trans hf.2)⟩, fun r S' k => ?_⟩
    refine rn_tblIn (v := 24) (tgt := 924) zd_L_law_1.1.2.1.2 rfl (by decide) (by decide) rfl rfl ?_
    exact lw_24 hW kf_2 kf_242 h1 h2 h3 h4 h5 ha hb k
  · obtain ⟨⟨v, M1⟩, ha, hf, ⟨w, M2⟩, hb, ho, hlo⟩ := c_forget hs
    dsimp only at hf hb ho hlo
    refine ⟨R, M2, L, ⟨hW, hL, ho, hfl.go (fun k => (congrFun (hlo 21 (by omega)) k).trans (hf.1 k)) ((fl_forget hs.md hb).trans hf.2)⟩, fun r S' k => ?_⟩
    refine rn_tblIn (v := 25) (tgt := 957) zd_L_law_1.1.2.1.2 rfl (by decide) (by decide) rfl rfl ?_
    exact lw_25 hW kf_2 kf_242 h1 h2 h3 h4 h5 ha hb k
  · obtain ⟨⟨v, M1, L1⟩, ha, hl, hf, ⟨w, M2⟩, hb, ho, hlo⟩ := c_fits hs hT hS L (zGx G (ztn (x3 + 1))) (zGx G (ztn (x3 + 2)))
    dsimp only at hl hf hb ho hlo
    refine ⟨R, M2, L1, ⟨hW, hL.eqL hl, ho, hfl.go (fun k => (congrFun (hlo 21 (by omega)) k).trans (hf.1 k)) ((fl_fits hs.md hb).trans hf.2)⟩, fun r S' k => ?_⟩
    refine rn_tblIn (v := 26) (tgt := 970) zd_L_law_1.1.2.1.2 rfl (by decide) (by decide) rfl rfl ?_
    exact lw_26 hW kf_2 kf_242 h1 h2 h3 h4 h5 ha hb k
  · obtain ⟨⟨v, M1, L1⟩, ha, hl, hf, ⟨w, M2⟩, hb, ho, hlo⟩ := c_span hs hT hS L (zGx G (ztn (x3 + 1))) (zGx G (ztn (x3 + 2))) (zGx G (ztn (x3 + 3)))
    dsimp only at hl hf hb ho hlo
    refine ⟨R, M2, L1, ⟨hW, hL.eqL hl, ho, hfl.go (fun k => (congrFun (hlo 21 (by omega)) k).trans (hf.1 k)) ((fl_span hs.md hb).trans hf.2)⟩, fun r S' k => ?_⟩
    refine rn_tblIn (v := 27) (tgt := 1003) zd_L_law_1.1.2.1.2 rfl (by decide) (by decide) rfl rfl ?_
    exact lw_27 hW kf_2 kf_242 h1 h2 h3 h4 h5 ha hb k
  · obtain ⟨⟨v, M1, L1⟩, ha, hl, hf, ⟨w, M2⟩, hb, ho, hlo⟩ := c_ago hs hT hS L (zGx G (ztn (x3 + 1)))
    dsimp only at hl hf hb ho hlo
    refine ⟨R, M2, L1, ⟨hW, hL.eqL hl, ho, hfl.go (fun k => (congrFun (hlo 21 (by omega)) k).trans (hf.1 k)) ((fl_ago hs.md hb).trans hf.2)⟩, fun r S' k => ?_⟩
    refine rn_tblIn (v := 28) (tgt := 1046) zd_L_law_1.1.2.1.2 rfl (by decide) (by decide) rfl rfl ?_
    exact lw_28 hW kf_2 kf_242 h1 h2 h3 h4 h5 ha hb k
  · obtain ⟨⟨v, M1, L1⟩, ha, hl, h281, hd, ⟨w, M2⟩, hb, ho, hlo⟩ := c_hold hs L (zGx G (ztn (x3 + 1)))
    dsimp only at hl h281 hd hb ho hlo
    have hfl2 : zFl M2 := by
      obtain ⟨f1, f2⟩ := fl_hold hs.md hb
      dsimp only at f1 f2
      intro s h3
      rw [hlo 21 (by omega)]
      rcases hd with ⟨e1, -, e3⟩ | ⟨t, e1, e2, -, e4, e5⟩
      · rw [e3, f1 e1, h281]
        exact hfl s h3
      · obtain ⟨g1, g2⟩ := f2 t e1 e2
        by_cases c : s = t
        · subst c
          rw [g1, e4]
        · rw [e5 s c, g2 s c, h281]
          exact hfl s h3
    refine ⟨R, M2, L1, ⟨hW, hL.eqL hl, ho, hfl2⟩, fun r S' k => ?_⟩
    refine rn_tblIn (v := 29) (tgt := 1069) zd_L_law_1.1.2.1.2 rfl (by decide) (by decide) rfl rfl ?_
    exact lw_29 hW kf_2 kf_242 h1 h2 h3 h4 h5 ha hb k
  · obtain ⟨⟨v, M1, L1⟩, ha, hl, hf, ⟨w, M2⟩, hb, ho, hlo⟩ := c_restore hs hT hS L (zGx G (ztn (x3 + 1)))
    dsimp only at hl hf hb ho hlo
    have hv : w = v := by
      obtain ⟨-, -, r2⟩ := restR hs.md hb
      obtain ⟨-, ⟨q, ru, C⟩, -⟩ := id hs
      obtain ⟨c1, c2⟩ := restC C ha
      rcases nI_cases (zGx G (ztn (x3 + 1))) 3 (by omega) with ⟨s, h3, e⟩ | hx
      · exact (r2 s h3 e).trans (Eq.trans (by rw [hf.2, ← hfl s h3]) (c2 s h3 e).symm)
      · exact ((restR hs.md hb).2.1 hx).trans (c1 hx).symm
    have hfl2 := hfl.go (fun k => (congrFun (hlo 21 (by omega)) k).trans (hf.1 k)) ((restR hs.md hb).1.trans hf.2)
    subst hv
    refine ⟨R, M2, L1, ⟨hW, hL.eqL hl, ho, hfl2⟩, fun r S' k => ?_⟩
    refine rn_tblIn (v := 30) (tgt := 1092) zd_L_law_1.1.2.1.2 rfl (by decide) (by decide) rfl rfl ?_
    exact lw_30 hW kf_2 kf_242 h1 h2 h3 h4 h5 ha hb k
  · obtain ⟨v, ha, w, hb, ho⟩ := c_count hs (zGx G (ztn (x3 + 1)))
    refine ⟨R, M, L, ⟨hW, hL, ho, hfl⟩, fun r S' k => ?_⟩
    refine rn_tblIn (v := 31) (tgt := 1115) zd_L_law_1.1.2.1.2 rfl (by decide) (by decide) rfl rfl ?_
    exact lw_31 hW kf_2 kf_242 h1 h2 h3 h4 h5 ha hb k
theorem lw_loop {G : zG} (hn : zGn G ≤ 3072) : ∀ (m c : Nat) (R : zR) (M : zM) (L : zL), c + m = 513 → zLS G R M L c → ∃ M1 L1 R1, Rn G mt_L 18 [(0, .ref 1), (1, .ref 2), (2, .ref 242), (3, .int (nI (6 * c)))] [] (M, L, R, KF) (some (.int 1)) (M1, L1, R1, KF) := by
  intro m
  induction m with
  | zero =>
    intro c R M L hc _
    refine ⟨M, L, R, ?_⟩
    refine rn_iload_n (q := 3) 3 rfl zd_L_law_0.2.1.2.1 ?_
    refine rn_aload_n (q := 0) 0 rfl zd_L_law_0.2.1.2.2 ?_
    refine rn_slen zd_L_law_0.2.2.1.1 ?_
    refine rn_bipush (v := 6) zd_L_law_0.2.2.1.2 rfl ?_
    refine rn_isub zd_L_law_0.2.2.2.1 ?_
    refine rn_icmp_gt_t (tgt := 1144) ((zle6 hn (by omega)).2 (by omega)) zd_L_law_0.2.2.2.2 rfl ?_
    refine rn_iconst (v := 1) zd_L_law_49.2.1 rfl ?_
    exact rn_zret zd_L_law_49.2.2 rfl rfl
  | succ m ih =>
    intro c R M L hc h
    by_cases hq : 6 * c + 6 ≤ zGn G
    · obtain ⟨R1, M1, L1, g, kk⟩ := lw_case hn hq h
      obtain ⟨M2, L2, R2, k2⟩ := ih (c + 1) R1 M1 L1 (by omega) g
      refine ⟨M2, L2, R2, ?_⟩
      refine rn_iload_n (q := 3) 3 rfl zd_L_law_0.2.1.2.1 ?_
      refine rn_aload_n (q := 0) 0 rfl zd_L_law_0.2.1.2.2 ?_
      refine rn_slen zd_L_law_0.2.2.1.1 ?_
      refine rn_bipush (v := 6) zd_L_law_0.2.2.1.2 rfl ?_
      refine rn_isub zd_L_law_0.2.2.2.1 ?_
      refine rn_icmp_gt_f (tgt := 1144) (fun z => absurd ((zle6 hn (by omega)).1 z) (by omega)) zd_L_law_0.2.2.2.2 rfl ?_
      refine rn_aload_n (q := 0) 0 rfl zd_L_law_1.1.1.1.1 ?_
      refine rn_iload_n (q := 3) 3 rfl zd_L_law_1.1.1.1.2 ?_
      refine rn_sld (zin_nI (by omega) (by omega)) zd_L_law_1.1.1.2.1 ?_
      refine rn_bipush (v := 31) zd_L_law_1.1.1.2.2 rfl ?_
      refine rn_iand zd_L_law_1.1.2.1.1 ?_
      refine kk _ _ ?_
      have e6 : nI (6 * c) + 6 = nI (6 * (c + 1)) := by
        rw [nI_lit 6, nI_add, show 6 * c + 6 = 6 * (c + 1) by omega]
      refine rn_iinc (v := nI (6 * (c + 1))) (ls' := [(3, .int (nI (6 * (c + 1)))), (0, .ref 1), (1, .ref 2), (2, .ref 242)]) 3 rfl (show nI (6 * c) + Int32.ofInt 6 = nI (6 * (c + 1)) from e6) (by decide) rfl zd_L_law_49.1.1 ?_
      refine rn_goto (tgt := 18) zd_L_law_49.1.2 rfl ?_
      exact rn_sub (ls' := [(0, .ref 1), (1, .ref 2), (2, .ref 242), (3, .int (nI (6 * (c + 1))))]) [1, 2, 3, 0] rfl k2
    · refine ⟨M, L, R, ?_⟩
      refine rn_iload_n (q := 3) 3 rfl zd_L_law_0.2.1.2.1 ?_
      refine rn_aload_n (q := 0) 0 rfl zd_L_law_0.2.1.2.2 ?_
      refine rn_slen zd_L_law_0.2.2.1.1 ?_
      refine rn_bipush (v := 6) zd_L_law_0.2.2.1.2 rfl ?_
      refine rn_isub zd_L_law_0.2.2.2.1 ?_
      refine rn_icmp_gt_t (tgt := 1144) ((zle6 hn (by omega)).2 (by omega)) zd_L_law_0.2.2.2.2 rfl ?_
      refine rn_iconst (v := 1) zd_L_law_49.2.1 rfl ?_
      exact rn_zret zd_L_law_49.2.2 rfl rfl
/-- THE LAW's body, in the store -/
theorem lw_body {G : zG} (hn : zGn G ≤ 3072) : ∃ M1 L1 R1, Rn G mt_L 0 [(0, .ref 1)] [] (fun _ _ => 0, fun _ _ => 0, zRl [], KF.take 2) (some (.int 1)) (M1, L1, R1, KF) := by
  have g0 : zC 2 [] (fun _ _ => 0) (fun _ _ => 0) := ⟨by decide, by decide, fun q hq => absurd hq (by simp), fun _ _ _ => rfl, fun _ _ _ => rfl⟩
  have g1 := g0.one kf_2 (n1 := 3) rfl
  obtain ⟨_, ha, M1, L1, rfl, g2, w1, cl, c10, d4, d5, d6, d7, gz⟩ := c_X11 g1
  have g3 := g2.one kf_242 (n1 := 243) rfl
  obtain ⟨_, hb, L2, rfl, w2, w3⟩ := c_X12 g3 w1
  have hst := zNv0 cl c10 d4 d5 d6 d7 gz rfl
  obtain ⟨M3, L3, R3, kk⟩ := lw_loop hn 513 0 _ _ _ rfl ⟨LF_wt, ⟨w2, w3⟩, hst.1, fun s _ => (hst.2.1 s).trans (hst.2.2 s).symm⟩
  refine ⟨M3, L3, R3, ?_⟩
  have e1 : KF.take 2 ++ [(11, 11)] = KF.take 3 := KF_tk kf_2
  have e2 : KF.take 242 ++ [(12, 61)] = KF.take 243 := KF_tk kf_242
  refine rn_newE (a1 := 2) (M1 := fun _ _ => 0) (R1 := zRl []) (K1 := KF.take 3) (KF_ln (by decide)).symm (zzM_id (fun _ => rfl)).symm (zzR_id (fun _ => rfl)).symm e1.symm zc_X11 zq_L_7 zqi_X11 zqn_X11 zd_L_law_0.1.1.1.1 ?_
  refine rn_dup zd_L_law_0.1.1.1.2 rfl ?_
  refine rn_callI (As := []) (rest := [.ref 2]) zl_L_9 zm_X11_init ⟨by decide, by decide⟩ rfl rfl (Nat.le_of_ble_eq_true rfl) zd_L_law_0.1.1.2.1 (ok_X11_init_g ha) ?_
  refine rn_astore_n (q := 1) (ls' := [(1, .ref 2), (0, .ref 1)]) (by decide) rfl zd_L_law_0.1.1.2.2 ?_
  refine rn_newE (a1 := 242) (M1 := M1) (R1 := zRl lX11) (K1 := KF.take 243) (KF_ln (by decide)).symm (zzM_id (fun j => g2.2.2.2.1 242 j (Nat.le_refl _))).symm (zzR_id (fun j => zRl_0 g2.2.2.1 (Nat.le_refl _))).symm e2.symm zc_X12 zq_L_10 zqi_X12 zqn_X12 zd_L_law_0.1.2.1.1 ?_
  refine rn_dup zd_L_law_0.1.2.1.2 rfl ?_
  refine rn_callI (As := []) (rest := [.ref 242]) zl_L_12 zm_X12_init ⟨by decide, by decide⟩ rfl rfl (Nat.le_of_ble_eq_true rfl) zd_L_law_0.1.2.2.1 (ok_X12_init_g hb) ?_
  refine rn_astore_n (q := 2) (ls' := [(2, .ref 242), (1, .ref 2), (0, .ref 1)]) (by decide) rfl zd_L_law_0.1.2.2.2 ?_
  refine rn_iconst (v := 0) zd_L_law_0.2.1.1.1 rfl ?_
  refine rn_istore_n (q := 3) (ls' := [(3, .int 0), (2, .ref 242), (1, .ref 2), (0, .ref 1)]) (by decide) rfl zd_L_law_0.2.1.1.2 ?_
  rw [KF_all]
  exact rn_sub (ls' := [(0, .ref 1), (1, .ref 2), (2, .ref 242), (3, .int 0)]) [3, 2, 1, 0] rfl kk

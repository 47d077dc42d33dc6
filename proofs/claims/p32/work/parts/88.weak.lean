/-! THE CLASS AS IT STANDS: foresight, plans, what was told -/
section KW
variable {R : zR} {M0 M M1 : zM} {L0 L L1 : zL} {q r : Nat} {ru : zRu}
theorem kC.f0 (C : kC R M0 q ru) : R 187 0 = 188 := C.rt.1
theorem kC.f1 (C : kC R M0 q ru) : R 187 1 = 193 := C.rt.2.1
theorem u193 (h : kW M0 L0 M L) {k : Nat} {v : Int32} : kW M0 L0 (zup M 193 k v) L := h.up (by unfold kFp zsk; omega) (by unfold kRg; omega)
theorem same_w (C : kC R M0 q ru) (M : zM) {s t : Nat} (hs : s ≤ 300) (ht : t ≤ 300) : zT (f_X1_isSame R M 187 (nI s) (nI t)) (fun _ => True) := by
  unfold f_X1_isSame
  have ix : nI s * (11 : Int32) = nI (11 * s) := by rw [nI_lit 11, pk_mul, Nat.mul_comm]
  have ix2 : nI t * (11 : Int32) = nI (11 * t) := by rw [nI_lit 11, pk_mul, Nat.mul_comm]
  rw [ix, ix2]
  refine zT_bd (zT_w (Q := fun _ => True) ?_ (fun e _ => ?_))
  · refine zT_for 11 (fun k v => v = nI k) rfl (by omega) ?_ ?_
    · rintro k v hk rfl
      unfold b_X1_isSame_14
      rw [nI_add, nI_add]
      exact zT_if (fun _ => zT_some trivial) (fun _ => zT_if0 (by rw [nI_lit 11]; exact nI_ge hk (by omega)) (zT_ck (zin_nI (by omega) (by omega)) (zT_ck (zin_nI (by omega) (by omega)) (zT_if (fun _ => zT_some (nI_1 k)) (fun _ => zT_some trivial)))))
    · rintro v rfl
      unfold b_X1_isSame_14
      exact zT_if (fun _ => zT_some trivial) (fun _ => zT_if1 (by decide) (zT_some trivial))
  · cases e
    · exact zT_some trivial
    · exact zT_some trivial
theorem walk_w (C : kC R M0 q ru) (h : kW M0 L0 M L) : zT (n_X1_walk R M L 187 q 13) (fun p => kW M0 L0 p.1 p.2) := by
  unfold n_X1_walk
  rw [C.f0]
  refine zT_bd2 (zT_w (copy_w C k188 k13 h) ?_)
  rintro ⟨M1, L1⟩ h1
  refine zT_bd (zT_w (Q := fun p => kW M0 L0 p.1 p.2) ?_ (fun p hp => zT_some hp))
  refine zT_for 301 (fun k v => v.1 = nI k ∧ kW M0 L0 v.2.1 v.2.2) ⟨rfl, h1⟩ (by omega) ?_ ?_
  · rintro k ⟨y, M2, L2⟩ hk ⟨rfl, g⟩
    dsimp only at g ⊢
    unfold nb_X1_walk_10
    have ix : nI k * (11 : Int32) = nI (11 * k) := by rw [nI_lit 11, pk_mul, Nat.mul_comm]
    rw [C.f0, C.f1, ix]
    refine zT_if0 (by rw [nI_lit 300]; exact nI_nlt (by omega) (by omega)) (zT_ck (zin_nI (by omega) (by omega)) (zT_lt (zT_bd (zT_w (Q := fun M1 => kW M0 L0 M1 L2) ?_ (fun M3 h3 => zT_bd2 (zT_w (eve_w C k188 h3 _) (fun p hp => zT_some ⟨nI_1 k, hp⟩)))))))
    refine zT_for 10 (fun j v => v.1 = nI j ∧ kW M0 L0 v.2 L2) ⟨rfl, u193 g⟩ (by omega) ?_ ?_
    · rintro j ⟨y2, M4⟩ hj ⟨rfl, g4⟩
      dsimp only at g4 ⊢
      unfold nb_X1_walk_40
      rw [C.f0, C.f1, nI_1, nI_add]
      exact zT_if0 (by rw [nI_lit 10]; exact nI_ge hj (by omega)) (zT_bd (zT_w (has_w M4 188 _) (fun b _ => zT_if (fun _ => zT_some g4) (fun _ => zT_ck (zin_nI hj (by omega)) (zT_ck (zin_nI (by omega) (by omega)) (zT_lt (zT_some ⟨nI_1 j, u193 g4⟩)))))))
    · rintro ⟨y2, M4⟩ ⟨rfl, g4⟩
      dsimp only at g4 ⊢
      unfold nb_X1_walk_40
      exact zT_if1 (by decide) (zT_some g4)
  · rintro ⟨y, M2, L2⟩ ⟨rfl, g⟩
    dsimp only at g ⊢
    unfold nb_X1_walk_10
    exact zT_if1 (by decide) (zT_some g)
theorem period_w (C : kC R M0 q ru) (h : kW M0 L0 M L) (x : Int32) : zT (n_X1_period R M L 187 q 13 x) (fun p => kW M0 L0 p.2.1 p.2.2) := by
  unfold n_X1_period
  refine zT_bd2 (zT_w (walk_w C h) ?_)
  rintro ⟨M1, L1⟩ h1
  dsimp only at h1 ⊢
  refine zT_bd (zT_w (Q := fun _ => True) ?_ (fun e _ => ?_))
  · refine zT_for 300 (fun k v => v = nI (k + 1)) rfl (by omega) ?_ ?_
    · rintro k v hk rfl
      unfold nb_X1_period_9
      refine zT_if0 (by rw [nI_lit 300]; exact nI_nlt (by omega) (by omega)) (zT_bd (zT_w (Q := fun _ => True) ?_ (fun e _ => ?_)))
      · refine zT_for (300 - k) (fun j v => v = nI j) rfl (by omega) ?_ ?_
        · rintro j v hj rfl
          unfold nb_X1_period_20
          rw [nI_add]
          exact zT_if0 (by rw [nI_lit 300]; exact nI_nlt (by omega) (by omega)) (zT_bd (zT_w (same_w C M1 (s := j) (t := j + (k + 1)) (by omega) (by omega)) (fun b _ => zT_if (fun _ => zT_some (nI_1 j)) (fun _ => zT_some trivial))))
        · rintro v rfl
          unfold nb_X1_period_20
          rw [nI_add]
          exact zT_if1 (by rw [nI_lit 300]; exact nI_lt (by omega) (by omega)) (zT_some trivial)
      · cases e
        · exact zT_some trivial
        · exact zT_some (nI_1 (k + 1))
    · rintro v rfl
      unfold nb_X1_period_9
      exact zT_if1 (by decide) (zT_some trivial)
  · cases e
    · exact zT_if (fun _ => zT_some h1) (fun _ => zT_some h1)
    · exact zT_some h1
theorem spreadA_w (C : kC R M0 q ru) (h : kW M0 L0 M L) {c : Nat} (hc : c ≤ 300) : zT (n_X1_spreadAfter R M L 187 q 13 (nI c)) (fun p => kW M0 L0 p.2.1 p.2.2) := by
  unfold n_X1_spreadAfter
  rw [C.f0]
  refine zT_bd2 (zT_w (copy_w C k188 k13 h) ?_)
  rintro ⟨M1, L1⟩ h1
  refine zT_bd2 (zT_w (eves_w C k188 h1 (by omega) _) ?_)
  rintro ⟨M2, L2⟩ h2
  dsimp only at h2 ⊢
  exact zT_bd (zT_w (spread_w R M2 188) (fun _ _ => zT_some h2))
theorem evenA_w (C : kC R M0 q ru) (h : kW M0 L0 M L) (x y : Int32) : zT (n_X1_evenAfter R M L 187 q 13 x y) (fun p => kW M0 L0 p.2.1 p.2.2) := by
  unfold n_X1_evenAfter
  rw [C.f0]
  refine zT_bd2 (zT_w (copy_w C k188 k13 h) ?_)
  rintro ⟨M1, L1⟩ h1
  refine zT_bd (zT_w (Q := Sum.elim (fun e => kW M0 L0 e.2.1 e.2.2) (fun e => kW M0 L0 e.1 e.2)) ?_ ?_)
  · refine zT_for 301 (fun k v => v.1 = nI k ∧ kW M0 L0 v.2.1 v.2.2) ⟨rfl, h1⟩ (by omega) ?_ ?_
    · rintro k ⟨z, M2, L2⟩ hk ⟨rfl, g⟩
      dsimp only at g ⊢
      unfold nb_X1_evenAfter_11
      rw [C.f0]
      exact zT_if0 (by rw [nI_lit 300]; exact nI_nlt (by omega) (by omega)) (zT_bd (zT_w (spread_w R M2 188) (fun _ _ => zT_if (fun _ => zT_bd2 (zT_w (eve_w C k188 g _) (fun p hp => zT_some ⟨nI_1 k, hp⟩))) (fun _ => zT_some g))))
    · rintro ⟨z, M2, L2⟩ ⟨rfl, g⟩
      dsimp only at g ⊢
      unfold nb_X1_evenAfter_11
      exact zT_if1 (by decide) (zT_some g)
  · rintro (e | e) he
    · exact zT_some he
    · exact zT_some he
theorem soonest_w (C : kC R M0 q ru) (h : kW M0 L0 M L) (x : Int32) : zT (n_X1_soonestSharing R M L 187 q 13 x) (fun p => kW M0 L0 p.2.1 p.2.2) := by
  unfold n_X1_soonestSharing
  refine zT_bd (zT_w (Q := fun p => kW M0 L0 p.2.1 p.2.2) ?_ (fun p hp => zT_some hp))
  refine zT_for 3 (fun k v => v.2.2.1 = nI k ∧ kW M0 L0 v.2.2.2.1 v.2.2.2.2) ⟨rfl, h⟩ (by omega) ?_ ?_
  · rintro k ⟨a, b, y, M2, L2⟩ hk ⟨e, g⟩
    dsimp only at e g ⊢
    subst e
    unfold nb_X1_soonestSharing_12
    refine zT_if0 (by rw [nI_lit 2]; exact nI_nlt (by omega) (by omega)) (zT_bd3 (zT_w (evenA_w C g _ _) ?_))
    rintro ⟨z, M3, L3⟩ g3
    exact zT_if (fun _ => zT_some ⟨nI_1 k, g3⟩) (fun _ => zT_if (fun _ => zT_some ⟨nI_1 k, g3⟩) (fun _ => zT_some ⟨nI_1 k, g3⟩))
  · rintro ⟨a, b, y, M2, L2⟩ ⟨e, g⟩
    dsimp only at e g ⊢
    subst e
    unfold nb_X1_soonestSharing_12
    exact zT_if1 (by decide) (zT_some g)
/-! plans -/
theorem kC.p0 (C : kC R M0 q ru) : R 200 0 = 201 := C.rt.2.2.2.2.2.1
theorem kC.p1 (C : kC R M0 q ru) : R 200 1 = 206 := C.rt.2.2.2.2.2.2.1
theorem u206 (h : kW M0 L0 M L) {k : Nat} {v : Int32} : kW M0 L0 (zup M 206 k v) L := h.up (by unfold kFp zsk; omega) (by unfold kRg; omega)
theorem follow_w (C : kC R M0 q ru) (h : kW M0 L0 M L) (x : Int32) {s : Nat} (hs : s < 256) : zT (n_X4_follow R M L 200 q 13 x (nI s)) (fun p => kW M0 L0 p.1 p.2) := by
  unfold n_X4_follow
  obtain ⟨e0, e1, e2, e3⟩ := C.rg k201
  rw [C.p0]
  refine zT_bd2 (zT_w (copy_w C k201 k13 h) ?_)
  rintro ⟨M1, L1⟩ h1
  dsimp only at h1 ⊢
  refine zT_bd (zT_w (Q := fun M2 => kW M0 L0 M2 L1) ?_ (fun M2 h2 => zT_bd2 (zT_w (eve_w C k201 h2 _) ?_)))
  · refine zT_for 10 (fun k v => v.1 = nI k ∧ kW M0 L0 v.2 L1) ⟨rfl, h1⟩ (by omega) ?_ ?_
    · rintro k ⟨y, M3⟩ hk ⟨rfl, g⟩
      dsimp only at g ⊢
      unfold nb_X4_follow_11 nj_X4_follow_68
      rw [C.p0, e1]
      have hz := zin_nI (k := k) (n := 10) hk (by omega)
      have hf : ∀ v : Int32, kW M0 L0 (zup M3 (201 + 2) (ztn (nI k)) v) L1 := fun v => g.rup k201 (by omega) (by omega) (by omega)
      exact zT_if0 (by rw [nI_lit 10]; exact nI_ge hk (by omega)) (zT_bd (zT_w (has_w M3 201 _) (fun b _ => zT_if (fun _ => zT_some g) (fun _ => zT_if (fun _ => zT_ck hz (zT_ck hz (zT_lt (zT_some ⟨nI_1 k, hf _⟩)))) (fun _ => zT_ck hz (zT_lt (zT_some ⟨nI_1 k, hf _⟩)))))))
    · rintro ⟨y, M3⟩ ⟨rfl, g⟩
      dsimp only at g ⊢
      unfold nb_X4_follow_11
      exact zT_if1 (by decide) (zT_some g)
  · rintro ⟨M3, L3⟩ h3
    dsimp only at h3 ⊢
    refine zT_bd (zT_w (Q := fun M2 => kW M0 L0 M2 L3) ?_ (fun M4 h4 => zT_some h4))
    refine zT_for 8 (fun k v => v.1 = nI k ∧ kW M0 L0 v.2 L3) ⟨rfl, h3⟩ (by omega) ?_ ?_
    · rintro k ⟨y, M4⟩ hk ⟨rfl, g⟩
      dsimp only at g ⊢
      unfold nb_X4_follow_90
      have ix : nI s * (8 : Int32) + nI k = nI (8 * s + k) := by rw [nI_lit 8, pk_mul, nI_add, Nat.mul_comm]
      rw [C.p0, C.p1, ix]
      exact zT_if0 (by rw [nI_lit 8]; exact nI_ge hk (by omega)) (zT_bd (zT_w (has_w M4 201 _) (fun b _ => zT_if (fun _ => zT_some g) (fun _ => zT_ck (zin_nI (by omega) (by omega)) (zT_ck (zin_nI (by omega) (by omega)) (zT_lt (zT_some ⟨nI_1 k, u206 g⟩)))))))
    · rintro ⟨y, M4⟩ ⟨rfl, g⟩
      dsimp only at g ⊢
      unfold nb_X4_follow_90
      exact zT_if1 (by decide) (zT_some g)
theorem isRest_w (M : zM) {s : Nat} (hs : s < 2 ^ 8) (x : Int32) : zT (f_X4_isRest R M 200 (nI s) x) (fun _ => True) := by
  unfold f_X4_isRest
  refine zT_bd (zT_w (Q := fun _ => True) ?_ (fun e _ => ?_))
  · refine zT_for 8 (fun k v => v = nI k) rfl (by omega) ?_ ?_
    · rintro k v hk rfl
      unfold b_X4_isRest_2
      have hx := xor_lt hs hk
      have ix : (nI s ^^^ ((1 : Int32) <<< (nI k &&& 31))) * (8 : Int32) + nI k = nI (8 * (s ^^^ 2 ^ k) + k) := by rw [one_shl (by omega), nI_xor, nI_lit 8, pk_mul, nI_add, Nat.mul_comm]
      have ix2 : nI s * (8 : Int32) + nI k = nI (8 * s + k) := by rw [nI_lit 8, pk_mul, nI_add, Nat.mul_comm]
      rw [ix, ix2]
      exact zT_if (fun _ => zT_some trivial) (fun _ => zT_if0 (by rw [nI_lit 8]; exact nI_ge hk (by omega)) (zT_ck (zin_nI (by omega) (by omega)) (zT_ck (zin_nI (by omega) (by omega)) (zT_if (fun _ => zT_some (nI_1 k)) (fun _ => zT_some trivial)))))
    · rintro v rfl
      unfold b_X4_isRest_2
      exact zT_if (fun _ => zT_some trivial) (fun _ => zT_if1 (by decide) (zT_some trivial))
  · cases e
    · exact zT_some trivial
    · exact zT_some trivial
theorem rest_w (C : kC R M0 q ru) (h : kW M0 L0 M L) (x y : Int32) : zT (n_X4_restAt R M L 200 q 13 x y) (fun p => kW M0 L0 p.2.1 p.2.2) := by
  unfold n_X4_restAt
  obtain ⟨n, hn, e4⟩ := h.n k13
  rw [e4]
  refine zT_if (fun hle => ?_) (fun _ => zT_some h)
  have hn8 : n ≤ 8 := by
    rcases Nat.lt_or_ge 8 n with z | z
    · exact absurd (show nI n ≤ nI 8 from hle) (nI_ge z (by omega))
    · exact z
  have hp : 2 ^ n ≤ 256 := two_le (i := n) (n := 8) hn8
  rw [one_shl hn8]
  refine zT_bd (zT_w (Q := fun p => kW M0 L0 p.1 p.2) ?_ ?_)
  · refine zT_for (2 ^ n) (fun k v => v.1 = nI k ∧ kW M0 L0 v.2.1 v.2.2) ⟨rfl, h⟩ (by omega) ?_ ?_
    · rintro k ⟨z, M2, L2⟩ hk ⟨rfl, g⟩
      dsimp only at g ⊢
      unfold nb_X4_restAt_23
      exact zT_if0 (nI_ge hk (by omega)) (zT_bd2 (zT_w (follow_w C g x (s := k) (by omega)) (fun p hp => zT_some ⟨nI_1 k, hp⟩)))
    · rintro ⟨z, M2, L2⟩ ⟨rfl, g⟩
      dsimp only at g ⊢
      unfold nb_X4_restAt_23
      exact zT_if1 (Int32.le_refl _) (zT_some g)
  · rintro ⟨M1, L1⟩ h1
    dsimp only at h1 ⊢
    refine zT_bd (zT_w (Q := fun _ => True) ?_ (fun e _ => ?_))
    · refine zT_for (2 ^ n) (fun k v => v.2 = nI k) rfl (by omega) ?_ ?_
      · rintro k ⟨c, z⟩ hk e
        dsimp only at e ⊢
        subst e
        unfold nb_X4_restAt_51
        exact zT_if0 (nI_ge hk (by omega)) (zT_bd (zT_w (isRest_w M1 (s := k) (by omega) _) (fun b _ => zT_if (fun _ => zT_some (nI_1 k)) (fun _ => zT_if (fun _ => zT_some trivial) (fun _ => zT_some (nI_1 k))))))
      · rintro ⟨c, z⟩ e
        dsimp only at e ⊢
        subst e
        unfold nb_X4_restAt_51
        exact zT_if1 (Int32.le_refl _) (zT_some trivial)
    · cases e
      · exact zT_some h1
      · exact zT_if (fun _ => zT_some h1) (fun _ => zT_some h1)
/-! what was told -/
theorem kC.t0 (C : kC R M0 q ru) : R 207 0 = 208 := C.rt.2.2.2.2.2.2.2.2.1
theorem kC.t1 (C : kC R M0 q ru) : R 207 1 = 209 := C.rt.2.2.2.2.2.2.2.2.2.1
theorem kC.t2 (C : kC R M0 q ru) : R 207 2 = 210 := C.rt.2.2.2.2.2.2.2.2.2.2.1
theorem kC.t3 (C : kC R M0 q ru) : R 207 3 = 211 := C.rt.2.2.2.2.2.2.2.2.2.2.2.1
theorem kC.t4 (C : kC R M0 q ru) : R 207 4 = 212 := C.rt.2.2.2.2.2.2.2.2.2.2.2.2.1
theorem kC.t5 (C : kC R M0 q ru) : R 207 5 = 213 := C.rt.2.2.2.2.2.2.2.2.2.2.2.2.2.1
theorem kW.t (h : kW M0 L0 M L) {a k : Nat} {v : Int32} (ha : (a = 207 ∧ 7 ≤ k) ∨ (210 ≤ a ∧ a ≤ 212)) : kW M0 L0 (zup M a k v) L := h.up (by unfold kFp zsk; omega) (by unfold kRg; omega)
theorem rowsUp_w (x : Int32) {n : Nat} (hn : n ≤ 10) : zT (f_X10_rowsUpTo 207 x (nI n)) (fun _ => True) := by
  unfold f_X10_rowsUpTo
  refine zT_bd (zT_w (Q := fun _ => True) ?_ (fun _ _ => zT_some trivial))
  refine zT_for n (fun k v => v.2 = nI k) rfl (by omega) ?_ ?_
  · rintro k ⟨y, z⟩ hk e
    dsimp only at e ⊢
    subst e
    unfold b_X10_rowsUpTo_5
    exact zT_if0 (nI_ge hk (by omega)) (zT_if (fun _ => zT_some trivial) (fun _ => zT_some (nI_1 k)))
  · rintro ⟨y, z⟩ e
    dsimp only at e ⊢
    subst e
    unfold b_X10_rowsUpTo_5
    exact zT_if1 (Int32.le_refl _) (zT_some trivial)
theorem tnote_w (C : kC R M0 q ru) (h : kW M0 L0 M L) (x : Int32) : zT (f_X10_note R M 207 x) (fun M1 => kW M0 L0 M1 L) := by
  unfold f_X10_note
  rw [C.t4]
  refine zT_lt ?_
  have h1 := h.t (a := 207) (k := 8) (v := M 207 8 + 1) (by omega)
  generalize zup M 207 8 (M 207 8 + 1) = M1 at h1 ⊢
  refine zT_if (fun _ => zT_some h1) (fun h0 => zT_if (fun h2 => ?_) (fun _ => zT_some h1))
  have hz : zin x 10 = true := zin_g h0 (fun z => Int32.lt_irrefl (Int32.lt_of_lt_of_le h2 z)) (by omega) (by omega)
  exact zT_ck hz (zT_lt (zT_ck hz (zT_lt (zT_some ((h1.t (by omega)).t (by omega))))))
theorem tstart_w (C : kC R M0 q ru) (h : kW M0 L0 M L) (x : Int32) : zT (f_X10_startRows R M 207 x) (fun p => kW M0 L0 p.2 L) := by
  unfold f_X10_startRows
  refine zT_bd (zT_w (Q := Sum.elim (fun M1 => kW M0 L0 M1 L) (fun M1 => kW M0 L0 M1 L)) ?_ ?_)
  · refine zT_for 10 (fun k v => v.1 = nI k ∧ kW M0 L0 v.2 L) ⟨rfl, h⟩ (by omega) ?_ ?_
    · rintro k ⟨y, M1⟩ hk ⟨rfl, g⟩
      dsimp only at g ⊢
      unfold b_X10_startRows_2
      rw [C.t3, C.t4, C.t5]
      have hz := zin_nI (k := k) (n := 10) hk (by omega)
      exact zT_if0 (by rw [nI_lit 10]; exact nI_ge hk (by omega)) (zT_bd (zT_w (has_w M1 213 _) (fun b _ => zT_if (fun _ => zT_some g) (fun _ => zT_ck hz (zT_if (fun _ => zT_ck hz (zT_ck hz (zT_lt (zT_some ⟨nI_1 k, g.t (by omega)⟩)))) (fun _ => zT_some g))))))
    · rintro ⟨y, M1⟩ ⟨rfl, g⟩
      dsimp only at g ⊢
      unfold b_X10_startRows_2
      exact zT_if1 (by decide) (zT_some g)
  · rintro (e | e) he
    · exact zT_some he
    · exact zT_some he
theorem tstep_w (C : kC R M0 q ru) (h : kW M0 L0 M L) (x : Int32) : zT (f_X10_stepRow R M 207 x) (fun p => kW M0 L0 p.2 L) := by
  unfold f_X10_stepRow
  refine zT_bd (zT_w (Q := Sum.elim (fun p => (∃ j, j < 10 ∧ p.1 = nI j) ∧ kW M0 L0 p.2 L) (fun M1 => kW M0 L0 M1 L)) ?_ ?_)
  · refine zT_for 10 (fun k v => v.1 = nI k ∧ kW M0 L0 v.2 L) ⟨rfl, h⟩ (by omega) ?_ ?_
    · rintro k ⟨y, M1⟩ hk ⟨rfl, g⟩
      dsimp only at g ⊢
      unfold b_X10_stepRow_2
      rw [C.t3, C.t4, C.t5]
      have hz := zin_nI (k := k) (n := 10) hk (by omega)
      exact zT_if0 (by rw [nI_lit 10]; exact nI_ge hk (by omega)) (zT_bd (zT_w (has_w M1 213 _) (fun b _ => zT_if (fun _ => zT_some g) (fun _ => zT_ck hz (zT_if (fun _ => zT_ck hz (zT_ck hz (zT_lt (zT_some ⟨nI_1 k, g.t (by omega)⟩)))) (fun _ => zT_some ⟨⟨k, hk, rfl⟩, g⟩))))))
    · rintro ⟨y, M1⟩ ⟨rfl, g⟩
      dsimp only at g ⊢
      unfold b_X10_stepRow_2
      exact zT_if1 (by decide) (zT_some g)
  · rintro (⟨y, M1⟩ | e) he
    · obtain ⟨⟨j, hj, ej⟩, g⟩ := he
      dsimp only at ej g ⊢
      subst ej
      have hz := zin_nI (k := j) (n := 10) hj (by omega)
      show zT (zck (zin (nI j) 10) <| zck (zin (nI j) 10) <| zlt (zup M1 (R 207 4) (ztn (nI j)) (M1 (R 207 4) (ztn (nI j)) + 1)) fun M15 => some ((1 : Int32), M15)) _
      rw [C.t4]
      exact zT_ck hz (zT_ck hz (zT_lt (zT_some (g.t (by omega)))))
    · exact zT_some he
theorem known119_w (C : kC R M0 q ru) (h : kW M0 L0 M L) {k : Nat} (x : Int32) : zT (nj_X10_paysAsKnown_119 R M L 207 q (nI k) x) (Sum.elim (fun v => v.1 = nI (k + 1) ∧ kW M0 L0 v.2.1 v.2.2) (Sum.elim (fun p => kW M0 L0 p.1 p.2) (fun p => kW M0 L0 p.1 p.2))) := by
  unfold nj_X10_paysAsKnown_119
  rw [C.t5]
  exact zT_if (fun _ => zT_some ⟨nI_1 k, h⟩) (fun _ => zT_bd2 (zT_w (pay_w C k213 h _ _) (fun p hp => zT_some ⟨nI_1 k, hp⟩)))
theorem known87_w (C : kC R M0 q ru) (h : kW M0 L0 M L) {k : Nat} (hk : k < 10) : zT (nj_X10_paysAsKnown_87 R M L 207 q (nI k)) (Sum.elim (fun v => v.1 = nI (k + 1) ∧ kW M0 L0 v.2.1 v.2.2) (Sum.elim (fun p => kW M0 L0 p.1 p.2) (fun p => kW M0 L0 p.1 p.2))) := by
  unfold nj_X10_paysAsKnown_87
  have hz := zin_nI (k := k) (n := 10) hk (by omega)
  rw [C.t5]
  refine zT_bd2 (zT_w (want_w C k213 h _) ?_)
  rintro ⟨y, M1⟩ g
  dsimp only at g ⊢
  exact zT_ck hz (zT_if (fun _ => known119_w C g _) (fun _ => zT_ck hz (zT_if (fun _ => known119_w C g _) (fun _ => zT_some g))))
theorem known_w (C : kC R M0 q ru) (h : kW M0 L0 M L) : zT (n_X10_paysAsKnown R M L 207 q) (fun p => kW M0 L0 p.2.1 p.2.2) := by
  unfold n_X10_paysAsKnown
  obtain ⟨e0, e1, e2, e3⟩ := C.rg k213
  refine zT_bd (zT_w (Q := fun M1 => kW M0 L0 M1 L) ?_ (fun M1 h1 => zT_bd (zT_w (Q := Sum.elim (fun p => kW M0 L0 p.1 p.2) (fun p => kW M0 L0 p.1 p.2)) ?_ ?_)))
  · refine zT_for 10 (fun k v => v.1 = nI k ∧ kW M0 L0 v.2 L) ⟨rfl, h⟩ (by omega) ?_ ?_
    · rintro k ⟨y, M1⟩ hk ⟨rfl, g⟩
      dsimp only at g ⊢
      unfold nb_X10_paysAsKnown_2
      rw [C.t4, C.t5, e0]
      have hz := zin_nI (k := k) (n := 10) hk (by omega)
      exact zT_if0 (by rw [nI_lit 10]; exact nI_ge hk (by omega)) (zT_bd (zT_w (has_w M1 213 _) (fun b _ => zT_if (fun _ => zT_some g) (fun _ => zT_ck hz (zT_ck hz (zT_lt (zT_some ⟨nI_1 k, g.rup k213 (by omega) (by omega) (by omega)⟩)))))))
    · rintro ⟨y, M1⟩ ⟨rfl, g⟩
      dsimp only at g ⊢
      unfold nb_X10_paysAsKnown_2
      exact zT_if1 (by decide) (zT_some g)
  · refine zT_for 10 (fun k v => v.1 = nI k ∧ kW M0 L0 v.2.1 v.2.2) ⟨rfl, h1⟩ (by omega) ?_ ?_
    · rintro k ⟨y, M2, L2⟩ hk ⟨rfl, g⟩
      dsimp only at g ⊢
      unfold nb_X10_paysAsKnown_42
      rw [C.t2, C.t5]
      have hz := zin_nI (k := k) (n := 10) hk (by omega)
      exact zT_if (fun _ => zT_some g) (fun _ => zT_if0 (by rw [nI_lit 10]; exact nI_ge hk (by omega)) (zT_bd (zT_w (has_w M2 213 _) (fun b _ => zT_if (fun _ => zT_some g) (fun _ => zT_ck hz (zT_if (fun _ => zT_if (fun _ => zT_some ⟨nI_1 k, g⟩) (fun _ => known87_w C g hk)) (fun _ => known87_w C g hk)))))))
    · rintro ⟨y, M2, L2⟩ ⟨rfl, g⟩
      dsimp only at g ⊢
      unfold nb_X10_paysAsKnown_42
      exact zT_if (fun _ => zT_some g) (fun _ => zT_if1 (by decide) (zT_some g))
  · rintro (e | e) he
    · exact zT_some he
    · exact zT_some he
theorem go164_w (C : kC R M0 q ru) (h : kW M0 L0 M L) {k : Nat} (x y z : Int32) : zT (nj_X10_goThrough_164 R M L 207 q 13 x y z (nI k)) (Sum.elim (fun v => v.2.1 = nI (k + 1) ∧ kW M0 L0 v.2.2.1 v.2.2.2) (fun p => kW M0 L0 p.1 p.2)) := by
  unfold nj_X10_goThrough_164
  exact zT_bd2 (zT_w (tstep_w C h _) (fun p hp => zT_some ⟨nI_1 k, hp⟩))
theorem go_w (C : kC R M0 q ru) (h : kW M0 L0 M L) (x y z : Int32) : zT (n_X10_goThrough R M L 207 q 13 x y z) (fun p => kW M0 L0 p.1 p.2) := by
  unfold n_X10_goThrough
  obtain ⟨e0, e1, e2, e3⟩ := C.rg k213
  rw [C.t5]
  refine zT_lt (zT_lt (zT_lt (zT_bd2 (zT_w (copy_w C k213 k13 (((h.t (by omega)).t (by omega)).t (by omega))) ?_))))
  rintro ⟨M1, L1⟩ h1
  dsimp only at h1 ⊢
  refine zT_bd (zT_w (Q := fun M2 => kW M0 L0 M2 L1) ?_ (fun M2 h2 => zT_bd2 (zT_w (tstart_w C h2 _) ?_)))
  · refine zT_for 10 (fun k v => v.1 = nI k ∧ kW M0 L0 v.2 L1) ⟨rfl, h1⟩ (by omega) ?_ ?_
    · rintro k ⟨w, M3⟩ hk ⟨rfl, g⟩
      dsimp only at g ⊢
      unfold nb_X10_goThrough_26
      rw [C.t5, e1]
      exact zT_if0 (by rw [nI_lit 10]; exact nI_ge hk (by omega)) (zT_bd (zT_w (has_w M3 213 _) (fun b _ => zT_if (fun _ => zT_some g) (fun _ => zT_ck (zin_nI hk (by omega)) (zT_lt (zT_some ⟨nI_1 k, g.rup k213 (by omega) (by omega) (by omega)⟩))))))
    · rintro ⟨w, M3⟩ ⟨rfl, g⟩
      dsimp only at g ⊢
      unfold nb_X10_goThrough_26
      exact zT_if1 (by decide) (zT_some g)
  · rintro ⟨w, M3⟩ h3
    dsimp only at h3 ⊢
    refine zT_bd (zT_w (Q := fun p => kW M0 L0 p.1 p.2) ?_ (fun p hp => zT_some hp))
    refine zT_for 200000 (fun k v => v.2.1 = nI k ∧ kW M0 L0 v.2.2.1 v.2.2.2) ⟨rfl, h3⟩ (by omega) ?_ ?_
    · rintro k ⟨m, w2, M4, L4⟩ hk ⟨e, g⟩
      dsimp only at e g ⊢
      subst e
      unfold nb_X10_goThrough_72
      rw [C.t5]
      refine zT_if0 (by rw [nI_lit 200000]; exact nI_ge hk (by omega)) (zT_if (fun _ => zT_some g) (fun _ => zT_bd (zT_w (Q := fun M5 => kW M0 L0 M5 L4) ?_ (fun M5 h5 => zT_lt ?_))))
      · refine zT_for 10 (fun j v => v.1 = nI j ∧ kW M0 L0 v.2 L4) ⟨rfl, g⟩ (by omega) ?_ ?_
        · rintro j ⟨w3, M6⟩ hj ⟨rfl, g6⟩
          dsimp only at g6 ⊢
          unfold nb_X10_goThrough_87
          rw [C.t2, C.t3, C.t4, C.t5]
          have hz := zin_nI (k := j) (n := 10) hj (by omega)
          exact zT_if (fun _ => zT_some g6) (fun _ => zT_if0 (by rw [nI_lit 10]; exact nI_ge hj (by omega)) (zT_bd (zT_w (has_w M6 213 _) (fun b _ => zT_if (fun _ => zT_some g6) (fun _ => zT_ck hz (zT_ck hz (zT_ck hz (zT_lt (zT_some ⟨nI_1 j, g6.t (by omega)⟩)))))))))
        · rintro ⟨w3, M6⟩ ⟨rfl, g6⟩
          dsimp only at g6 ⊢
          unfold nb_X10_goThrough_87
          exact zT_if (fun _ => zT_some g6) (fun _ => zT_if1 (by decide) (zT_some g6))
      · have h6 := h5.rup (k := 5) (v := M5 13 5) k213 (Nat.le_refl _) (by omega) (by omega)
        generalize zup M5 213 5 (M5 13 5) = M6 at h6 ⊢
        refine zT_bd3 (zT_w (known_w C h6) ?_)
        rintro ⟨w4, M7, L7⟩ h7
        dsimp only at h7 ⊢
        exact zT_if (fun _ => go164_w C h7 _ _ _) (fun _ => zT_bd (zT_w (tnote_w C h7 _) (fun M8 h8 => go164_w C h8 _ _ _)))
    · rintro ⟨m, w2, M4, L4⟩ ⟨e, g⟩
      dsimp only at e g ⊢
      subst e
      unfold nb_X10_goThrough_72
      exact zT_if1 (by decide) (zT_some g)
theorem goFits_w (C : kC R M0 q ru) (h : kW M0 L0 M L) (x y z : Int32) : zT (n_X10_goThroughFits R M L 207 q 13 x y z) (fun p => kW M0 L0 p.1 p.2) := by
  unfold n_X10_goThroughFits
  refine zT_lt (zT_bd (zT_w (Q := fun M2 => kW M0 L0 M2 L) ?_ (fun M2 h2 => zT_bd (zT_w (Q := fun M2 => kW M0 L0 M2 L) ?_ (fun M3 h3 => zT_bd2 (zT_w (go_w C h3 _ _ _) (fun p hp => zT_some hp)))))))
  · refine zT_for 10 (fun k v => v.1 = nI k ∧ kW M0 L0 v.2 L) ⟨rfl, h.t (by omega)⟩ (by omega) ?_ ?_
    · rintro k ⟨w, M3⟩ hk ⟨rfl, g⟩
      dsimp only at g ⊢
      unfold nb_X10_goThroughFits_8
      rw [C.t2, C.t3]
      have hz := zin_nI (k := k) (n := 10) hk (by omega)
      exact zT_if0 (by rw [nI_lit 10]; exact nI_ge hk (by omega)) (zT_ck hz (zT_lt (zT_ck hz (zT_lt (zT_some ⟨nI_1 k, (g.t (by omega)).t (by omega)⟩)))))
    · rintro ⟨w, M3⟩ ⟨rfl, g⟩
      dsimp only at g ⊢
      unfold nb_X10_goThroughFits_8
      exact zT_if1 (by decide) (zT_some g)
  · refine zT_for 20 (fun k v => v.1 = nI k ∧ kW M0 L0 v.2 L) ⟨rfl, h2⟩ (by omega) ?_ ?_
    · rintro k ⟨w, M3⟩ hk ⟨rfl, g⟩
      dsimp only at g ⊢
      unfold nb_X10_goThroughFits_40
      rw [C.t0, C.t1, C.t2]
      have hz := zin_nI (k := k) (n := 20) hk (by omega)
      refine zT_if (fun _ => zT_some g) (fun _ => zT_if (fun _ => zT_some g) (fun _ => zT_if0 (by rw [nI_lit 20]; exact nI_ge hk (by omega)) (zT_ck hz (zT_bd (zT_w (has_w M3 13 _) (fun b hb => zT_if (fun _ => zT_some ⟨nI_1 k, g⟩) (fun hh => ?_)))))))
      obtain ⟨j, hj, ej, _⟩ := hb hh
      rw [ej]
      exact zT_ck hz (zT_ck hz (zT_ck (zin_nI hj (by omega)) (zT_lt (zT_ck hz (zT_lt (zT_some ⟨nI_1 k, (g.t (by omega)).t (by omega)⟩))))))
    · rintro ⟨w, M3⟩ ⟨rfl, g⟩
      dsimp only at g ⊢
      unfold nb_X10_goThroughFits_40
      exact zT_if (fun _ => zT_some g) (fun _ => zT_if (fun _ => zT_some g) (fun _ => zT_if1 (by decide) (zT_some g)))
theorem goAgo_w (C : kC R M0 q ru) (h : kW M0 L0 M L) (x : Int32) : zT (n_X10_goThroughAgo R M L 207 q 13 x) (fun p => kW M0 L0 p.1 p.2) := by
  unfold n_X10_goThroughAgo
  refine zT_lt (zT_bd (zT_w (Q := fun M2 => kW M0 L0 M2 L) ?_ (fun M2 h2 => zT_bd2 (zT_w (go_w C h2 _ _ _) (fun p hp => zT_some hp)))))
  refine zT_for 10 (fun k v => v.1 = nI k ∧ kW M0 L0 v.2 L) ⟨rfl, h.t (by omega)⟩ (by omega) ?_ ?_
  · rintro k ⟨w, M3⟩ hk ⟨rfl, g⟩
    dsimp only at g ⊢
    unfold nb_X10_goThroughAgo_13
    rw [C.t3]
    have hz := zin_nI (k := k) (n := 10) hk (by omega)
    exact zT_if0 (by rw [nI_lit 10]; exact nI_ge hk (by omega)) (zT_bd (zT_w (has_w M3 13 _) (fun b hb => zT_if (fun _ => zT_some g) (fun _ => zT_ck hz (zT_ck hz (zT_lt (zT_some ⟨nI_1 k, g.t (by omega)⟩)))))))
  · rintro ⟨w, M3⟩ ⟨rfl, g⟩
    dsimp only at g ⊢
    unfold nb_X10_goThroughAgo_13
    exact zT_if1 (by decide) (zT_some g)
end KW

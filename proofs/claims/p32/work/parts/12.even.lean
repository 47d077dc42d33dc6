/-! A LAW'S WORD, on the reference's side -/
theorem zup_r {M : zM} {a b k : Nat} {v : Int32} (h : b ≠ a) : zup M a k v b = M b := by
  funext j
  exact zup_a h
theorem two_nI {l k : Nat} (hl : l < 2) (hk : k < 2) : (2 : Int32) * nI l + nI k = nI (2 * l + k) := by
  rcases (show l = 0 ∨ l = 1 by omega) with rfl | rfl <;> rcases (show k = 0 ∨ k = 1 by omega) with rfl | rfl <;> decide
theorem nI_20 {e : Int32} {h : Nat} : (20 : Int32) * e + nI h = 20 * e + nI h := rfl
theorem clampF_0 (most : Int32) : clampF most 0 = 0 := by
  unfold clampF
  by_cases h : most < 0
  · rw [if_pos h, if_neg (fun q => Int32.lt_irrefl (Int32.lt_trans h q))]
  · rw [if_neg h, if_neg (by decide)]
theorem vF_congr {n h : Nat} {street seed : Int32} {w : Nat → Int32} {s : Nat → Int32} (hs : ∀ k, k < 7 → s k = vF n street seed w h k) {P : zPr} (hP : dP P) : evP s P = evP (vF n street seed w h) P := by
  refine evP_congr P fun b hb i hi h1 => ?_
  obtain ⟨q1, q2⟩ := dB_var (hP b hb) i hi h1
  obtain ⟨j, hj, e⟩ := nn_lt (n := 7) q1 q2 (by omega)
  rw [e, ztn_nI (by omega)]
  exact hs j hj
theorem X12_tells {R : zR} {M : zM} (hR : zMd R) {most : Int32} (hm : 0 ≤ most) : ∀ (P Q : zPr) (f : Nat) (M1 : zM), dP P → zBs M f P → f + P.length ≤ 260 → zag tlA M M1 → M1 242 44 = 0 → M1 268 = M 268 → evP (M 268) P = evP (M 268) Q → zT (zbd (zloop zN (fun v => b_X12_tellsBy_164 R v.2 242 most (nI (f + P.length)) v.1) (nI f, M1)) fun e38 =>
    Sum.elim (fun e39 =>
      some ((0 : Int32), e39)
    ) (fun e40 =>
      Sum.elim (fun e41 =>
        zck (zin e41.1 260) <|
        zck (zin e41.1 260) <|
        zbd2 (f_X12_termOf R e41.2 242 (e41.2 (R 242 35) (ztn e41.1)) (e41.2 (R 242 36) (ztn e41.1))) fun r45 M46 =>
        if (M46 242 44) = 0 then (
          if 0 ≤ r45 then (
            if r45 ≤ most then (
              some (r45, M46)
            ) else (
              some (most, M46)
            )
          ) else (
            some ((0 : Int32), M46)
          )
        ) else (
          some ((0 : Int32), M46)
        )
      ) (fun e42 =>
        some ((0 : Int32), e42)
      ) e40
    ) e38) (fun r => r.1 = clampF most (evP (M 268) Q) ∧ zag tlA M r.2) := by
  intro P Q f M1 hP hB hf hg h44 h268 hPQ
  refine zT_bd ?_
  have r32 : R 242 32 = 260 := hR.at rfl (by decide)
  have r33 : R 242 33 = 261 := hR.at rfl (by decide)
  have r34 : R 242 34 = 262 := hR.at rfl (by decide)
  have r35 : R 242 35 = 263 := hR.at rfl (by decide)
  have r36 : R 242 36 = 264 := hR.at rfl (by decide)
  refine zT_loop (fun m v => ∃ (P1 : zPr) (j : Nat), m = P1.length ∧ j + P1.length = f + P.length ∧ v.1 = nI j ∧ dP P1 ∧ zBs M j P1 ∧ zag tlA M v.2 ∧ v.2 242 44 = 0 ∧ v.2 268 = M 268 ∧ evP (M 268) P1 = evP (M 268) Q) P.length ⟨P, f, rfl, rfl, rfl, hP, hB, hg, h44, h268, hPQ⟩ (by omega) ?_
  rintro m ⟨x7, M2⟩ ⟨P1, j, rfl, hj, e1, hP1, hB1, hg1, h1, h2, hq⟩
  simp only at e1 hg1 h1 h2
  subst e1
  unfold b_X12_tellsBy_164
  simp only
  rw [r32, r33, r34, r35]
  have gg : ∀ a k, 260 ≤ a → a ≤ 266 → M2 a k = M a k := fun a k q1 q2 => hg1 a k (by unfold tlA; omega)
  cases P1 with
  | nil =>
    refine zT_if1 (by simp at hj; rw [hj]; exact nI_le (Nat.le_refl _) (by omega)) (zT_some ?_)
    exact zT_some ⟨by rw [← hq]; exact (clampF_0 most).symm, hg1⟩
  | cons g P1 =>
  rw [List.length_cons] at hj
  have hz := zin_nI (k := j) (n := 260) (by omega) (by omega)
  refine zT_if0 (nI_ge (by omega) (by omega)) (zT_ck hz ?_)
  obtain ⟨hb, hB2⟩ := hB1
  replace hb : zBr M2 j g := hb.eq gg
  have hd : dB g := hP1 g (by simp)
  rw [ztn_nI (by omega)]
  have tm : ∀ (M3 : zM) (e : zEx) (p : Nat) (T : Int32 × zM → Prop), zag tlA M M3 → M3 268 = M 268 → zCd M2 p e → dO e 0 → p + e.length ≤ 840 → (∀ M4 : zM, zag tlA M M4 → M4 268 = M 268 → M4 242 44 = (if (evE (M 268) e).isSome then M3 242 44 else 1) → T ((evE (M 268) e).getD 0, M4)) → zT (f_X12_termOf R M3 242 (nI p) (nI (p + e.length))) T := fun M3 e p T q1 q2 q3 q4 q5 q6 => by
    have gg3 : ∀ a k, 260 ≤ a → a ≤ 266 → M3 a k = M2 a k := fun a k w1 w2 => by rw [gg a k w1 w2]; exact q1 a k (by unfold tlA; omega)
    refine zT_w (X12_termOf hR (zCd.eq (fun k => gg3 _ k (by omega) (by omega)) (fun k => gg3 _ k (by omega) (by omega)) _ _ q3) q4 q5) ?_
    rintro ⟨x, M4⟩ ⟨w1, w2, w3⟩
    rw [q2] at w1 w2
    simp only at w1 w2 w3
    subst w1
    exact q6 M4 (q1.tr (w3.mo (fun b k q => by unfold tlA; omega))) (funext fun k => by rw [w3 268 k (by omega), q2]) w2
  have fin : ∀ (M3 : zM) (e : zEx) (p : Nat), zag tlA M M3 → M3 242 44 = 0 → M3 268 = M 268 → M3 263 j = nI p → M3 264 j = nI (p + e.length) → zCd M2 p e → dO e 0 → p + e.length ≤ 840 → (evE (M 268) e).getD 0 = evP (M 268) Q → zT (zck (zin (nI j) 260) <| zck (zin (nI j) 260) <|
        zbd2 (f_X12_termOf R M3 242 (M3 263 (ztn (nI j))) (M3 (R 242 36) (ztn (nI j)))) fun r45 M46 =>
        if (M46 242 44) = 0 then (
          if 0 ≤ r45 then (
            if r45 ≤ most then (
              some (r45, M46)
            ) else (
              some (most, M46)
            )
          ) else (
            some ((0 : Int32), M46)
          )
        ) else (
          some ((0 : Int32), M46)
        )) (fun r => r.1 = clampF most (evP (M 268) Q) ∧ zag tlA M r.2) := fun M3 e p q1 q2 q3 q4 q5 q6 q7 q8 q9 => by
    refine zT_ck hz (zT_ck hz (zT_bd2 ?_))
    rw [r36, ztn_nI (by omega), q4, q5]
    refine tm M3 e p _ q1 q3 q6 q7 q8 ?_
    intro M4 t1 t2 t3
    rw [q2] at t3
    simp only
    rw [t3, q9]
    cases he : evE (M 268) e with
    | none =>
      rw [he] at q9
      refine zT_if0 (by simp) (zT_some ⟨?_, t1⟩)
      rw [← q9]
      exact (clampF_0 most).symm
    | some x =>
      refine zT_if1 (by simp) ?_
      rw [← clampF_m hm]
      refine zT_if (fun w => ?_) (fun w => ?_)
      · rw [if_pos w]
        refine zT_if (fun w2 => ?_) (fun w2 => ?_)
        · rw [if_pos w2]
          exact zT_some ⟨rfl, t1⟩
        · rw [if_neg w2]
          exact zT_some ⟨rfl, t1⟩
      · rw [if_neg w]
        exact zT_some ⟨rfl, t1⟩
  match g, hb, hd, hq with
  | (none, e), hb, hd, hq =>
    obtain ⟨h0, p, b1, b2, b3, b4⟩ := hb
    refine zT_if1 h0 (zT_some ?_)
    exact fin M2 e p hg1 h1 h2 b1 b2 b3 hd b4 hq
  | (some (u, v), e), hb, hd, hq =>
    obtain ⟨h0, p, b1, b2, b3, b4, b5, b6, b7, b8⟩ := hb
    obtain ⟨d1, d2, d3⟩ := hd
    refine zT_if0 (by rw [h0]; decide) (zT_ck hz (zT_ck hz (zT_bd2 ?_)))
    rw [b1, b2]
    refine tm M2 u p _ hg1 h2 b5 d1 (by omega) ?_
    intro M3 t1 t2 t3
    simp only
    refine zT_ck hz (zT_ck hz (zT_bd2 ?_))
    have gg3 : ∀ a k, 260 ≤ a → a ≤ 266 → M3 a k = M2 a k := fun a k w1 w2 => by rw [gg a k w1 w2]; exact t1 a k (by unfold tlA; omega)
    rw [gg3 262 j (by omega) (by omega), gg3 263 j (by omega) (by omega), b2, b3]
    refine tm M3 v (p + u.length) _ t1 t2 b6 d2 (by omega) ?_
    intro M4 s1 s2 s3
    have gg4 : ∀ a k, 260 ≤ a → a ≤ 266 → M4 a k = M2 a k := fun a k w1 w2 => by rw [gg a k w1 w2]; exact s1 a k (by unfold tlA; omega)
    simp only
    rw [s3, t3, h1]
    rw [evP, evT] at hq
    cases hu : evE (M 268) u with
    | none =>
      rw [hu] at hq
      refine zT_if0 ?_ (zT_some ?_)
      · cases evE (M 268) v <;> simp
      · exact zT_some ⟨by rw [← hq]; exact (clampF_0 most).symm, s1⟩
    | some x =>
    cases hv : evE (M 268) v with
    | none =>
      rw [hu, hv] at hq
      refine zT_if0 (by simp) (zT_some ?_)
      exact zT_some ⟨by rw [← hq]; exact (clampF_0 most).symm, s1⟩
    | some y =>
    rw [hu, hv] at hq
    rw [hu] at t3
    rw [hv] at s3
    have s44 : M4 242 44 = 0 := by
      rw [s3, t3, h1]
      simp
    refine zT_if1 (by simp) (zT_if (fun q => zT_some ?_) (fun q => zT_some ?_))
    · replace q : x < y := q
      refine fin M4 e (p + u.length + v.length) s1 s44 s2 ?_ ?_ b7 d3 (by omega) ?_
      · rw [gg4 263 j (by omega) (by omega)]; exact b3
      · rw [gg4 264 j (by omega) (by omega)]; exact b4
      · rw [← hq]
        show _ = if decide (x < y) = true then (evE (M 268) e).getD 0 else evP (M 268) P1
        rw [if_pos (by simpa using q)]
    · replace q : ¬ x < y := q
      refine ⟨P1.length, by simp, P1, j + 1, rfl, by omega, nI_1 _, fun b hb => hP1 b (by simp [hb]), hB2, s1, s44, s2, ?_⟩
      rw [← hq]
      show _ = if decide (x < y) = true then (evE (M 268) e).getD 0 else evP (M 268) P1
      rw [if_neg (by simpa using q)]

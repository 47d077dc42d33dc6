/-! BECOMES, the reference's side -/
section TRY
variable {R : zR} {M : zM} {ru : zRu} {q l n T S u x : Nat}
theorem X12_trail (h : zSt R M ru q l n T S u x) (hT : T + 3100000 < 2147483648) (hS : S + 400 < 2147483648) (x1 : Int32) (e0 : M 271 = rowF M) : zT (zloop zN (fun v => b_X12_becomes_17 R v.2 242 x1 v.1) ((0 : Int32), M)) (fun M1 => (∀ e, e ≤ 300 → (∀ k, k < 20 → M1 274 (21 * e + k) = evesF n (ruH ru) ru (rowF M) e k) ∧ M1 274 (21 * e + 20) = evesF n (ruH ru) ru (rowF M) e 41) ∧ zag zsr M M1) := by
  have hn := h.n10
  have hl := h.ll
  have r50 : R 242 50 = 274 := h.md.at rfl (by decide)
  refine zT_for 301 (fun e v => v.1 = nI e ∧ v.2 271 = evesF n (ruH ru) ru (rowF M) e ∧ zag zsr M v.2 ∧ ∀ e', e' < e → (∀ k, k < 20 → v.2 274 (21 * e' + k) = evesF n (ruH ru) ru (rowF M) e' k) ∧ v.2 274 (21 * e' + 20) = evesF n (ruH ru) ru (rowF M) e' 41) ⟨rfl, e0, zag.rf, fun e he => absurd he (by omega)⟩ (by omega) ?_ ?_
  · rintro e ⟨y, M2⟩ he ⟨rfl, e2, g2, d2⟩
    simp only at e2 g2 d2 ⊢
    unfold b_X12_becomes_17
    have ix : (21 : Int32) * nI e = nI (21 * e) := by rw [nI_lit 21, pk_mul]
    rw [ix, nI_lit 20, nI_add, r50, h.r46]
    refine zT_if0 (by rw [nI_lit 300]; exact nI_nlt (by omega) (by omega)) (zT_bd ?_)
    refine zT_w (zCopy (M := M2) (A := 274) (B := 271) (f := 21 * e) (g := 0) (c := 20) (by omega) ?_ ?_ (fun e => absurd e (by decide))) ?_
    · intro k M3 hk _ _
      show b_X12_becomes_26 R M3 242 x1 (nI e) (nI k) = _
      unfold b_X12_becomes_26
      rw [r50, h.r46, ix, nI_add, nI_lit 20, if_neg (nI_ge hk (by omega)), ztn_nI (by omega), ztn_nI (by omega), Nat.zero_add]
      unfold zck
      rw [if_pos (zin_nI (by omega) (by omega)), if_pos (zin_nI (by omega) (by omega))]
      rfl
    · intro M3 _
      show b_X12_becomes_26 R M3 242 x1 (nI e) (nI 20) = _
      unfold b_X12_becomes_26
      rw [if_pos (by decide)]
    · rintro M3 ⟨e3, g3⟩
      have c271 : M3 271 = M2 271 := g3.row (fun k => by omega)
      refine zT_ck (zin_nI (by omega) (by omega)) (zT_lt ?_)
      rw [ztn_nI (by omega), c271, show ztn (41 : Int32) = 41 from rfl]
      have e4 : ∀ j, zup M3 274 (21 * e + 20) (M2 271 41) 274 j = if j = 21 * e + 20 then M2 271 41 else if 21 * e ≤ j ∧ j < 21 * e + 20 then M2 271 (0 + (j - 21 * e)) else M2 274 j := fun j => by
        by_cases c : j = 21 * e + 20
        · subst c
          rw [zup_same, if_pos rfl]
        · rw [zup_k c, if_neg c, e3]
      have g4 : zag zsr M (zup M3 274 (21 * e + 20) (M2 271 41)) := (g2.tr (g3.mo (fun b k e => by unfold zsr; omega))).up (by unfold zsr; omega)
      have c4 : zup M3 274 (21 * e + 20) (M2 271 41) 271 = M2 271 := (zup_r (by decide)).trans c271
      generalize zup M3 274 (21 * e + 20) (M2 271 41) = M4 at e4 g4 c4 ⊢
      have h4 := h.sc (zsr.sc g4)
      rw [h4.l18, h.md.at (k := 26) (b := 255) rfl (by decide), ztn_nI (by omega), h4.howR]
      have gk := h.gd.eves (how := ruH ru) (ru := ru) e (by omega) (by omega)
      refine zT_ck (zin_nI hl (by omega)) (zT_bd (zT_w (X12_evening h.md h4.ms h.ok h4.l18 (by rw [c4, e2]; exact gk) (by omega) (by omega) h.ok.1) ?_))
      rintro M5 ⟨e5, g5⟩
      have c5 : ∀ j, M5 274 j = M4 274 j := fun j => g5 274 j (by unfold mrA tlA; omega)
      refine zT_some ⟨nI_1 _, ?_, g4.tr (mrA.sr g5), fun e' he' => ?_⟩
      · show M5 271 = _
        rw [e5, c4, e2]
        rfl
      · show (∀ k, k < 20 → M5 274 (21 * e' + k) = _) ∧ M5 274 (21 * e' + 20) = _
        by_cases c : e' = e
        · subst c
          refine ⟨fun k hk => ?_, ?_⟩
          · rw [c5, e4, if_neg (by omega), if_pos (by omega), e2, show 0 + (21 * e' + k - 21 * e') = k by omega]
          · rw [c5, e4, if_pos rfl, e2]
        · refine ⟨fun k hk => ?_, ?_⟩
          · rw [c5, e4, if_neg (by omega), if_neg (by omega)]
            exact (d2 e' (by omega)).1 k hk
          · rw [c5, e4, if_neg (by omega), if_neg (by omega)]
            exact (d2 e' (by omega)).2
  · rintro ⟨y, M2⟩ ⟨rfl, e2, g2, d2⟩
    simp only at e2 g2 d2 ⊢
    unfold b_X12_becomes_17
    exact zT_if1 (by decide) (zT_some ⟨fun e he => d2 e (by omega), g2⟩)
theorem X12_isAlike (hR : zMd R) {n : Nat} (hn : n ≤ 10) {w : Nat → Nat → Int32} (hw : ∀ e, e ≤ 300 → (∀ k, k < 20 → M 274 (21 * e + k) = w e k) ∧ M 274 (21 * e + 20) = w e 41) (hf : ∀ e, e ≤ 300 → ∀ j, zfx n j → w e j = w 0 j) {s t : Nat} (hs : s ≤ 300) (ht : t ≤ 300) : f_X12_isAlike R M 242 (nI s) (nI t) = some (if sameB n (w s) (w t) = true then 1 else 0) := by
  have r50 : R 242 50 = 274 := hR.at rfl (by decide)
  apply zT_val
  unfold f_X12_isAlike
  have ix : (21 : Int32) * nI s = nI (21 * s) := by rw [nI_lit 21, pk_mul]
  have ix2 : (21 : Int32) * nI t = nI (21 * t) := by rw [nI_lit 21, pk_mul]
  obtain ⟨a1, a2⟩ := hw s hs
  obtain ⟨b1, b2⟩ := hw t ht
  refine zT_bd ?_
  refine zT_seek 21 (fun i => !(decide (M 274 (21 * s + i) = M 274 (21 * t + i)))) (fun i v => v = nI i) rfl (by omega) ?_ ?_ ?_
  · rintro i v hi rfl hp
    unfold b_X12_isAlike_2
    rw [r50, ix, ix2, nI_add, nI_add]
    refine zT_if0 (by rw [nI_lit 21]; exact nI_ge (by omega) (by omega)) (zT_ck (zin_nI (by omega) (by omega)) (zT_ck (zin_nI (by omega) (by omega)) ?_))
    rw [ztn_nI (by omega), ztn_nI (by omega)]
    exact zT_if1 (by simpa using hp) (zT_some (nI_1 _))
  · rintro i v hi rfl hp hseek
    unfold b_X12_isAlike_2
    rw [r50, ix, ix2, nI_add, nI_add]
    refine zT_if0 (by rw [nI_lit 21]; exact nI_ge (by omega) (by omega)) (zT_ck (zin_nI (by omega) (by omega)) (zT_ck (zin_nI (by omega) (by omega)) ?_))
    rw [ztn_nI (by omega), ztn_nI (by omega)]
    have hne : ¬ M 274 (21 * s + i) = M 274 (21 * t + i) := by simpa using hp
    refine zT_if0 hne (zT_some (zT_some ?_))
    cases hb : sameB n (w s) (w t) with
    | false => rfl
    | true =>
      obtain ⟨c1, c2⟩ := sameB_t hb
      refine absurd ?_ hne
      by_cases i0 : i = 20
      · subst i0
        rw [a2, b2]
        exact c2
      · rw [a1 i (by omega), b1 i (by omega)]
        by_cases i1 : i < n
        · exact c1 i i1
        · rw [hf s hs i (Or.inl ⟨by omega, by omega⟩), hf t ht i (Or.inl ⟨by omega, by omega⟩)]
  · rintro v rfl hseek
    unfold b_X12_isAlike_2
    refine zT_if1 (by decide) (zT_some (zT_some ?_))
    cases hb : sameB n (w s) (w t) with
    | true => rfl
    | false =>
      refine absurd ⟨fun i hi => ?_, ?_⟩ (sameB_f hb)
      · have := seekF_no _ _ hseek i (by omega) (by omega)
        rw [← a1 i (by omega), ← b1 i (by omega)]
        simpa using this
      · have := seekF_no _ _ hseek 20 (by omega) (by omega)
        rw [← a2, ← b2]
        simpa using this
theorem zBecomes (h : zSt R M ru q l n T S u x) (hT : T + 3100000 < 2147483648) (hS : S + 400 < 2147483648) (x1 : Int32) : zAns R M ru q l n T S u x (f_X11_becomes R M 2 x1) (fun M1 => f_X12_becomes R M1 242 x1) := by
  have hn := h.n10
  unfold zAns
  by_cases c01 : ¬ (x1 = 0 ∨ x1 = 1)
  · unfold f_X11_becomes f_X12_becomes
    have hin : f_X12_in x1 (0 : Int32) (1 : Int32) = some 0 := by
      refine in_n ?_
      by_cases a : x1 < 0
      · exact Or.inl a
      by_cases b : 1 < x1
      · exact Or.inr b
      obtain ⟨d, hd, rfl⟩ := nI_upto (e := 1) a (i_le_of b) (by omega)
      rcases (show d = 0 ∨ d = 1 by omega) with rfl | rfl
      · exact absurd (Or.inl rfl) c01
      · exact absurd (Or.inr rfl) c01
    exact zT_if0 (fun q => c01 (Or.inl q)) (zT_if0 (fun q => c01 (Or.inr q)) (zT_some ⟨zag.rf, zT_bd (zT_eq hin (zT_if1 rfl (zT_some ⟨rfl, zag.rf⟩)))⟩))
  have c01 : x1 = 0 ∨ x1 = 1 := by
    by_cases c : x1 = 0 ∨ x1 = 1
    · exact c
    · exact absurd c c01
  obtain ⟨w, hw⟩ : ∃ w : Nat → Nat → Int32, w = fun e => evesF n (ruH ru) ru (rowF M) e := ⟨_, rfl⟩
  obtain ⟨ans, hA⟩ : ∃ ans, ans = (becS n w).elim (-2) (fun r => if x1 = 0 then nI r.1 else nI r.2) := ⟨_, rfl⟩
  have rf : ∀ M1 : zM, zag zsk M M1 → zT (f_X12_becomes R M1 242 x1) (fun p => p.1 = ans ∧ zag zsr M1 p.2) := by
    intro M1 g1
    have h1 := h.sc (zsk.sc g1)
    have f1 := zsk.rws g1
    unfold f_X12_becomes
    have hin : f_X12_in x1 (0 : Int32) (1 : Int32) = some 1 := by
      rcases c01 with rfl | rfl
      · exact in_y (by decide) (by decide)
      · exact in_y (by decide) (by decide)
    refine zT_bd (zT_eq hin (zT_if0 (by decide) (zT_bd (zT_w h1.copyR ?_))))
    rintro M2 ⟨e2, g2, f2⟩
    have h2 := h1.sc (zsr.sc g2)
    refine zT_bd (zT_w (X12_trail h2 hT hS x1 (e2.trans f2.symm)) ?_)
    rintro M3 ⟨d3, g3⟩
    rw [f2, f1] at d3
    have d3' : ∀ e, e ≤ 300 → (∀ k, k < 20 → M3 274 (21 * e + k) = w e k) ∧ M3 274 (21 * e + 20) = w e 41 := by rw [hw]; exact d3
    have wf : ∀ e, e ≤ 300 → ∀ j, zfx n j → w e j = w 0 j := fun e he j hj => by
      rw [hw]
      exact evesF_fx h.gd hj e (by omega) (by omega)
    have inner : ∀ k, k < 300 → zT (zloop zN (fun v => b_X12_becomes_104 R M3 242 x1 (nI (k + 1)) v) (0 : Int32)) (Sum.elim (fun r => ∃ s, seekF (becP n w k) (300 - k) 0 = some s ∧ r = nI s) (fun _ => seekF (becP n w k) (300 - k) 0 = none)) := by
      intro k hk
      refine zT_seek (300 - k) (becP n w k) (fun s v => v = nI s) rfl (by omega) ?_ ?_ ?_
      · rintro s v hs rfl hp
        unfold b_X12_becomes_104
        rw [nI_add]
        refine zT_if0 (by rw [nI_lit 300]; exact nI_nlt (by omega) (by omega)) (zT_bd (zT_eq (X12_isAlike h.md hn d3' wf (by omega) (by omega)) (zT_if1 ?_ (zT_some (nI_1 _)))))
        unfold becP at hp
        rw [hp]
        rfl
      · rintro s v hs rfl hp hk
        unfold b_X12_becomes_104
        rw [nI_add]
        refine zT_if0 (by rw [nI_lit 300]; exact nI_nlt (by omega) (by omega)) (zT_bd (zT_eq (X12_isAlike h.md hn d3' wf (by omega) (by omega)) (zT_if0 ?_ (zT_some ⟨s, hk, rfl⟩))))
        unfold becP at hp
        rw [hp]
        decide
      · rintro v rfl hk
        unfold b_X12_becomes_104
        rw [nI_add]
        exact zT_if1 (by rw [nI_lit 300]; exact nI_lt (by omega) (by omega)) (zT_some hk)
    refine zT_bd ?_
    refine zT_seek 300 (becQ n w) (fun k v => v = nI (k + 1)) rfl (by omega) ?_ ?_ ?_
    · rintro k v hk rfl hp
      unfold b_X12_becomes_95
      refine zT_if0 (by rw [nI_lit 300]; exact nI_nlt (by omega) (by omega)) (zT_bd (zT_w (inner k hk) ?_))
      rintro (r | r) hx
      · obtain ⟨s, e, -⟩ := hx
        unfold becQ at hp
        rw [e] at hp
        exact absurd hp (by simp)
      · exact zT_some (nI_1 _)
    · rintro k v hk rfl hp hseek
      unfold b_X12_becomes_95
      refine zT_if0 (by rw [nI_lit 300]; exact nI_nlt (by omega) (by omega)) (zT_bd (zT_w (inner k hk) ?_))
      rintro (r | r) hx
      · obtain ⟨s, e, rfl⟩ := hx
        have eS : becS n w = some (k + 1, s) := by
          unfold becS
          rw [hseek]
          simp only [Option.bind_some]
          rw [e]
          rfl
        rw [eS] at hA
        refine zT_some (zT_if (fun c => zT_some ⟨?_, g2.tr g3⟩) (fun c => zT_some ⟨?_, g2.tr g3⟩))
        · rw [hA]
          show nI (k + 1) = if x1 = 0 then nI (k + 1) else nI s
          rw [if_pos c]
        · rw [hA]
          show nI s = if x1 = 0 then nI (k + 1) else nI s
          rw [if_neg c]
      · unfold becQ at hp
        rw [show seekF (becP n w k) (300 - k) 0 = none from hx] at hp
        exact absurd hp (by simp)
    · rintro v rfl hseek
      unfold b_X12_becomes_95
      have eS : becS n w = none := by
        unfold becS
        rw [hseek]
        rfl
      rw [eS] at hA
      exact zT_if1 (by decide) (zT_some (zT_some ⟨hA.symm, g2.tr g3⟩))
  unfold f_X11_becomes j_X11_becomes_11 j_X11_becomes_32
  rw [h.x2, h.q8, h.xr.2.2.2.2.1]
  have cl : ∀ y : Int32, (y = 0 ↔ x1 ≠ 0) → zT (zbd2 (f_X1_period R M 187 q 13 y) fun r3 M4 => some (r3, M4)) (fun p => zag zsk M p.2 ∧ zT (f_X12_becomes R p.2 242 x1) (fun p1 => p1.1 = p.1 ∧ zag zsr p.2 p1.2)) := fun y hy => by
    refine zT_bd2 (zT_w (X1_period h hT hS y) ?_)
    rintro ⟨z, M1⟩ ⟨ez, g1⟩
    rw [← hw] at ez
    have ez2 : z = ans := by
      rw [hA, show z = _ from ez]
      cases becS n w with
      | none => rfl
      | some r =>
        show (if y = 0 then nI r.2 else nI r.1) = if x1 = 0 then nI r.1 else nI r.2
        by_cases c : x1 = 0
        · rw [if_pos c, if_neg (fun q => hy.1 q c)]
        · rw [if_neg c, if_pos (hy.2 c)]
    refine zT_some ⟨g1, ?_⟩
    rw [ez2]
    exact rf M1 g1
  rcases c01 with c | c
  · refine zT_if1 c (zT_if1 c (cl 1 ⟨fun q => absurd q (by decide), fun q => absurd c q⟩))
  · have c0 : ¬ x1 = 0 := by rw [c]; decide
    exact zT_if0 c0 (zT_if1 c (zT_if0 c0 (cl 0 ⟨fun _ => c0, fun _ => rfl⟩)))
end TRY

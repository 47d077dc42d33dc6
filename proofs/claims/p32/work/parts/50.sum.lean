/-! READ, on the class's side: the rest of an E -/
theorem nI_np {k : Nat} (h : 0 < k) (hk : k < 2147483648) : ¬ nI k ≤ 0 := nI_ge (a := 0) h hk
theorem popTop {stk : List Int32} {op : Nat} (hw : wfS stk op) (ho : 0 < op) : ∃ s, (popS 1 stk).2 = 6 :: s ∧ wfS s (op - 1) ∧ opsN s = opsN (popS 1 stk).2 := by
  obtain ⟨p1, p2, _⟩ := popS_wf (lb := 1) (by omega) stk op hw
  revert p1 p2
  cases (popS 1 stk).2 with
  | nil => intro p1; exact absurd p1 (by show ¬ op = 0; omega)
  | cons w s =>
    intro p1 p2
    unfold wfS at p1
    by_cases w6 : w = 6
    · subst w6
      rw [if_pos rfl] at p1
      exact ⟨s, rfl, p1.2, by show _ = opsN s + _; rw [if_pos rfl]; omega⟩
    · rw [if_neg w6] at p1
      exfalso
      have : bondR w < 1 := p2
      rcases p1.1 with rfl | rfl | rfl | rfl <;> exact absurd this (by decide)
theorem opC_n1 (w : Int32) : opC w ≠ 1 := by
  unfold opC
  split
  · decide
  split
  · decide
  split <;> decide
theorem popS_nl (lb : Nat) : ∀ (s : List Int32), nlE (popS lb s).1
  | [] => fun i h => absurd h (by unfold popS; simp)
  | w :: s => fun i h => by
    unfold popS at h
    by_cases c : bondR w < lb
    · rw [if_pos c] at h
      exact absurd h (by simp)
    · rw [if_neg c] at h
      rcases List.mem_cons.1 h with e | h
      · intro q
        rw [e] at q
        exact absurd q (opC_n1 w)
      · exact popS_nl lb s i h
theorem nlE_app {e f : zEx} (h : nlE e) (h2 : nlE f) : nlE (e ++ f) := fun i hi => by
  rcases List.mem_append.1 hi with q | q
  · exact h i q
  · exact h2 i q
theorem zStk_pop {M : zM} {b : Nat} (lb : Nat) : ∀ (s : List Int32), zStk M b (s.map ckF) → zStk M b ((popS lb s).2.map ckF)
  | [], h => h
  | w :: s, h => by
    unfold popS
    by_cases c : bondR w < lb
    · rw [if_pos c]
      exact h
    · rw [if_neg c]
      exact zStk_pop lb s h.2
theorem puA_c {a b k : Nat} (h : puA a b k) : (b = a ∨ b = a + 1 ∨ b = a + 2) ∨ (b = 5 ∧ k = 4) := by
  unfold puA adA at h
  omega
theorem bond_k {k : Int32} (h : 0 < bondR k) : k = 8 ∨ k = 9 ∨ k = 10 ∨ k = 15 := by
  unfold bondR at h
  by_cases q : k = 10 ∨ k = 15
  · rcases q with q | q
    · exact Or.inr (Or.inr (Or.inl q))
    · exact Or.inr (Or.inr (Or.inr q))
  · rw [if_neg q] at h
    by_cases q2 : k = 8 ∨ k = 9
    · rcases q2 with q2 | q2
      · exact Or.inl q2
      · exact Or.inr (Or.inl q2)
    · rw [if_neg q2] at h
      exact absurd h (by omega)
def sumQ (R : zR) (M : zM) (L : zL) (P : Nat → Int32) (a s0 : Nat) (res : tF ⊕ (Nat × zEx)) : zM → Prop := fun e20 => zT (if e20 5 5 ≤ 0 then j_X5_readSum_129 R e20 L 5 a else zbd (f_X5_failAt R e20 5 (e20 5 3) 1) fun M24 => j_X5_readSum_129 R M24 L 5 a) (fun M1 => oC P res (fun r M1 => AL r.1 M1 ∧ M1 a 3 = nI (s0 + r.2.length) ∧ zAt M1 (a + 1) (a + 2) s0 (fE r.2) ∧ blw a s0 M M1 ∧ (M1 a 4 = 0 → M a 4 = 0 ∧ nlE r.2)) M1 ∧ zag (rsA a) M M1)
def sumI (M : zM) (K V P : Nat → Int32) (c t a s0 : Nat) (res : tF ⊕ (Nat × zEx)) (m : Nat) (v : Int32 × Int32 × zM) : Prop := zag (rsA a) M v.2.2 ∧ ((∃ (i t1 op : Nat) (stk : List Int32) (out : zEx) (due : Bool), m = 402 - t1 ∧ v.1 = (if due = true then 1 else 0) ∧ v.2.1 = nI i ∧ i + t ≤ t1 ∧ aliveS a s0 M v.2.2 t1 op stk out ∧ pureS c t t1 op stk out ∧ sumS K V (401 - t1) t1 op stk out due = res) ∨ (m = 0 ∧ ∃ f, deadS P f v.2.2 ∧ res = .inl f))
section CLS
variable {R : zR} {M : zM} {L : zL} {K V P : Nat → Int32} {c t : Nat}
theorem X5_unit {a s0 t0 op : Nat} {stk : List Int32} {out : zEx} {M1 : zM} (hp : zRp R) (hR : zLr R a) (ha : 12 < a) (hk : tkC M1 L K V P c) (hA : aliveS a s0 M M1 t op stk out) (hP : pureS c t0 t op stk out) (hs0 : s0 < t0) (hKc : ∀ i, i ≤ c → K i ≠ 0 → i < c ∨ i = 400) : zT (f_X5_readUnit R M1 L 5 a (ckF (K t))) (fun M2 => nxtS K V P c a s0 t0 M t op stk out true (decide (K t = 6)) M2 ∧ zag (rsA a) M1 M2) := by
  obtain ⟨k1, k7, k8, k9⟩ := hk.2 t hP.1
  have c400 := hk.1
  by_cases c6 : K t = 6
  · rw [decide_eq_true c6, c6]
    exact X5_unitO hp ha hk hA hP hKc c6
  rw [decide_eq_false c6]
  have n40 : ¬ ckF (K t) = 40 := fun z => c6 ((ck_is 6 k1 (by decide) (by decide)).1 z)
  obtain ⟨hv1, hv2⟩ := ck_vr k1
  unfold f_X5_readUnit
  refine zT_if0 n40 ?_
  by_cases c3 : 33 ≤ K t ∧ K t ≤ 39
  · obtain ⟨u1, u2⟩ := hv1.2 c3
    refine zT_if0 u1 (zT_if0 u2 ?_)
    rw [hv2 c3]
    have c2 : ¬ K t = 2 := fun q => by rw [q] at c3; exact absurd c3.1 (by decide)
    have c0 : K t ≠ 0 := fun q => by rw [q] at c3; exact absurd c3.1 (by decide)
    refine X5_unitV hp hR ha hk hA hP hs0 hKc (k := 1) (y := 2) (x := K t - 33) (d := K t) (z := ckF (K t)) (by decide) (by decide) k1 rfl c0 rfl ?_ (fun fuel => ?_)
    · by_cases q : K t - 33 = 5
      · exact Or.inl ⟨rfl, q⟩
      · exact Or.inr (fun w => q w.2)
    · show (if K t = 6 then _ else _) = _
      rw [if_neg c6, if_neg c2, if_pos c3]
  · have J : zT (j_X5_readUnit_80 R M1 L 5 a) (fun M2 => nxtS K V P c a s0 t0 M t op stk out true false M2 ∧ zag (rsA a) M1 M2) := by
      unfold j_X5_readUnit_80
      rw [hp.2.1, hA.1.1]
      refine zT_bd (zT_eq (X9_value hp (by have := hP.1; omega)) ?_)
      by_cases c2 : K t = 2
      · rw [k9 c2]
        refine X5_unitV hp hR ha hk hA hP hs0 hKc (k := 0) (y := 1) (x := V t) (d := 2) (z := 3) (by decide) (by decide) (by decide) (by decide) (by decide) c2 (Or.inr (fun w => absurd w.1 (by decide))) (fun fuel => ?_)
        show (if K t = 6 then _ else _) = _
        rw [if_neg c6, if_pos c2]
      · obtain ⟨hal, h4, h5, hS, h3, hz, hb, hf⟩ := hA
        have hln := hP.len
        obtain ⟨p1, p2, p3, p4⟩ := hP
        refine zT_bd (zT_w (X3_addT hR _ _) ?_)
        intro M2 a5
        have n5 : ∀ j, M2 5 j = M1 5 j := fun j => a5 5 j (by unfold adA; omega)
        have hk2 : tkC M2 L K V P c := hk.eq (fun j => a5 7 j (by unfold adA; omega)) (fun j => a5 8 j (by unfold adA; omega))
        refine zT_bd2 (zT_w (X5_takeN hp hk2 ⟨by rw [n5]; exact hal.1, by rw [n5]; exact hal.2⟩ p1 (d := 2) (by decide) (by decide) c2) ?_)
        rintro ⟨r, M3⟩ ⟨⟨_, hfc⟩, g3⟩
        simp only at hfc g3 ⊢
        refine zT_some ⟨Or.inr ⟨(1, t), ⟨hfc, ⟨stk.length, by omega, by rw [g3 5 4 (by unfold tkA; omega), n5]; exact h4⟩, op, by omega, by rw [g3 5 5 (by unfold tkA; omega), n5]; exact h5⟩, fun fuel => ?_⟩, (a5.mo (fun b j q => Or.inl (Or.inl q))).tr (g3.mo (fun b j q => Or.inr (Or.inr (tkA_c q))))⟩
        show (if K t = 6 then _ else _) = _
        rw [if_neg c6, if_neg c2, if_neg c3]
    exact zT_if (fun _ => J) (fun h1 => zT_if (fun _ => J) (fun h2 => absurd (hv1.1 ⟨h1, h2⟩) c3))
theorem X5_close {a s0 t0 op : Nat} {stk : List Int32} {out : zEx} {M1 : zM} (hp : zRp R) (hR : zLr R a) (ha : 12 < a) (hk : tkC M1 L K V P c) (hA : aliveS a s0 M M1 t op stk out) (hP : pureS c t0 t op stk out) (hs0 : s0 < t0) (hKc : ∀ i, i ≤ c → K i ≠ 0 → i < c ∨ i = 400) (hK : K t = 7) (ho : 0 < op) : zT (f_X5_readClose R M1 5 a) (fun M2 => nxtS K V P c a s0 t0 M t op stk out false false M2 ∧ zag (rsA a) M1 M2) := by
  obtain ⟨hal, h4, h5, hS, h3, hz, hb, hf⟩ := hA
  have hln := hP.len
  obtain ⟨p1, p2, p3, p4⟩ := hP
  have c400 := hk.1
  have hmem := wfS_mem stk op p3
  obtain ⟨q1, q2, q3, q4, q5⟩ := popS_wf (lb := 1) (by omega) stk op p3
  obtain ⟨s, e1, e2, e3⟩ := popTop p3 ho
  have hput := X5_put (lb := 1) hp hR ha (by omega) (fun w hw => stk_kd (hmem w hw)) hmem h4 hln.1 hS h3 (by omega) hz
  rw [← nI_lit 1] at hput
  have hsp : ∀ fuel, sumS K V (fuel + 1) t op stk out false = sB (goS t) fun t1 => sumS K V fuel t1 (op - 1) (popS 1 stk).2.tail (out ++ (popS 1 stk).1) false := fun fuel => by
    show (if K t = 7 ∧ 0 < op then _ else _) = _
    rw [if_pos ⟨hK, ho⟩]
  unfold f_X5_readClose
  refine zT_bd (zT_w hput ?_)
  rintro M2 ⟨b4, b3, bz, bb, bf, bg⟩
  rw [e1, List.length_cons] at b4
  have sl : s.length + 1 ≤ 20 := by rw [e1, List.length_cons] at q5; omega
  rw [b4, nI_sub1 (by omega), Nat.add_sub_cancel]
  refine zT_if0 (nI_np (by omega) (by omega)) (zT_lt ?_)
  unfold j_X5_readClose_23
  have n5 : M2 5 5 = nI op := by rw [bg 5 5 (by intro q; have := puA_c q; omega)]; exact h5
  have n3 : M2 5 3 = nI t := by rw [bg 5 3 (by intro q; have := puA_c q; omega)]; exact hal.1
  have n6 : M2 5 6 = 0 := by rw [bg 5 6 (by intro q; have := puA_c q; omega)]; exact hal.2
  have n12 : ∀ j, M2 12 j = M1 12 j := fun j => bg 12 j (by intro q; have := puA_c q; omega)
  rw [zup_k (by omega), n5, nI_sub1 ho]
  refine zT_lt ?_
  have gM : zag (rsA a) M1 (zup (zup M2 5 4 (nI s.length)) 5 5 (nI (op - 1))) := ((bg.mo (B := rsA a) (fun b j q => Or.inl q)).up (Or.inr (Or.inr ⟨rfl, by omega, by omega⟩))).up (Or.inr (Or.inr ⟨rfl, by omega, by omega⟩))
  have v4 : zup (zup M2 5 4 (nI s.length)) 5 5 (nI (op - 1)) 5 4 = nI s.length := by rw [zup_k (by omega), zup_same]
  have v5 : zup (zup M2 5 4 (nI s.length)) 5 5 (nI (op - 1)) 5 5 = nI (op - 1) := zup_same
  have vk : ∀ j, j ≠ 4 → j ≠ 5 → zup (zup M2 5 4 (nI s.length)) 5 5 (nI (op - 1)) 5 j = M2 5 j := fun j j4 j5 => by rw [zup_k j5, zup_k j4]
  have vO : ∀ b j, b ≠ 5 → zup (zup M2 5 4 (nI s.length)) 5 5 (nI (op - 1)) b j = M2 b j := fun b j hb => by rw [zup_a hb, zup_a hb]
  generalize zup (zup M2 5 4 (nI s.length)) 5 5 (nI (op - 1)) = M3 at gM v4 v5 vk vO ⊢
  have hk3 : tkC M3 L K V P c := hk.eq (fun j => gM 7 j (by unfold rsA; intro q; rcases q with q | q; have := puA_c q; omega; omega)) (fun j => gM 8 j (by unfold rsA; intro q; rcases q with q | q; have := puA_c q; omega; omega))
  refine zT_bd2 (zT_w (X5_takeY hp hk3 ⟨by rw [vk 3 (by omega) (by omega)]; exact n3, by rw [vk 6 (by omega) (by omega)]; exact n6⟩ p1 (d := 7) (by decide) (by decide) hK) ?_)
  rintro ⟨r, M4⟩ ⟨hr, g4⟩
  simp only at hr g4 ⊢
  have f4 : M4 5 4 = nI s.length := by rw [g4 5 4 (by unfold tkA; omega)]; exact v4
  have f5 : M4 5 5 = nI (op - 1) := by rw [g4 5 5 (by unfold tkA; omega)]; exact v5
  have fO : ∀ b j, b ≠ 5 → M4 b j = M2 b j := fun b j hb => by rw [g4 b j (by unfold tkA; omega)]; exact vO b j hb
  refine zT_some ⟨?_, gM.tr (g4.mo (fun b j q => Or.inr (Or.inr (tkA_c q))))⟩
  rcases hr with ⟨q, _, hfc⟩ | ⟨q, _, hal4⟩
  · refine Or.inr ⟨(2, t), ⟨hfc, ⟨s.length, by omega, f4⟩, op - 1, by omega, f5⟩, fun fuel => ?_⟩
    rw [hsp]
    unfold sB goS
    rw [if_pos q]
  · have tc : t + 1 ≤ c := by
      rcases hKc t p1 (by rw [hK]; decide) with w | w
      · exact w
      · exact absurd w q
    refine Or.inl ⟨op - 1, s, out ++ (popS 1 stk).1, ⟨hal4, f4, f5, zStk.eq _ (fun j _ => by rw [fO 12 j (by omega), n12]) ?_, by rw [fO a 3 (by omega)]; exact b3, zAt.eq (fun j => fO _ j (by omega)) (fun j => fO _ j (by omega)) _ _ bz, fun j hj => ?_, fun w => ?_⟩, ⟨tc, by omega, e2, ?_⟩, fun fuel => ?_⟩
    · have := zStk_pop 1 stk hS
      rw [e1, List.map_cons] at this
      exact this.2
    · obtain ⟨w1, w2⟩ := (hb.tr bb (by omega)) j hj
      rw [fO _ j (by omega), fO _ j (by omega)]
      exact ⟨w1, w2⟩
    · rw [fO a 4 (by omega)] at w
      obtain ⟨w3, w4⟩ := hf (bf w)
      exact ⟨w3, nlE_app w4 (popS_nl 1 stk)⟩
    · rw [List.length_append, e3]
      omega
    · rw [hsp, e1]
      unfold sB goS
      rw [if_neg q]
      rfl
theorem X5_sign {a s0 t0 op : Nat} {stk : List Int32} {out : zEx} {M1 : zM} (hp : zRp R) (hR : zLr R a) (ha : 12 < a) (hk : tkC M1 L K V P c) (hA : aliveS a s0 M M1 t op stk out) (hP : pureS c t0 t op stk out) (hs0 : s0 < t0) (hKc : ∀ i, i ≤ c → K i ≠ 0 → i < c ∨ i = 400) (hK : 0 < bondR (K t)) : zT (f_X5_readSign R M1 5 a (ckF (K t))) (fun M2 => nxtS K V P c a s0 t0 M t op stk out false true M2 ∧ zag (rsA a) M1 M2) := by
  obtain ⟨hal, h4, h5, hS, h3, hz, hb, hf⟩ := hA
  have hln := hP.len
  obtain ⟨p1, p2, p3, p4⟩ := hP
  have c400 := hk.1
  have hmem := wfS_mem stk op p3
  have kk := bond_k hK
  have k1 := (hk.2 t p1).1
  have k6 : ¬ K t = 6 := by rcases kk with q | q | q | q <;> rw [q] <;> decide
  have k7 : ¬ K t = 7 := by rcases kk with q | q | q | q <;> rw [q] <;> decide
  have k0 : ¬ K t = 0 := by rcases kk with q | q | q | q <;> rw [q] <;> decide
  obtain ⟨q1, q2, q3, q4, q5⟩ := popS_wf hK stk op p3
  have hput := X5_put (lb := bondR (K t)) hp hR ha ⟨hK, bondR_2 _⟩ (fun w hw => stk_kd (hmem w hw)) hmem h4 hln.1 hS h3 (by omega) hz
  have hsp : ∀ fuel, sumS K V (fuel + 1) t op stk out false = sB (goS t) fun t1 => sumS K V fuel t1 op (K t :: (popS (bondR (K t)) stk).2) (out ++ (popS (bondR (K t)) stk).1) true := fun fuel => by
    show (if K t = 7 ∧ 0 < op then _ else _) = _
    rw [if_neg (fun z => k7 z.1), if_pos hK]
  unfold f_X5_readSign
  refine zT_bd (zT_eq (X5_bond k1) (zT_bd (zT_w hput ?_)))
  rintro M2 ⟨b4, b3, bz, bb, bf, bg⟩
  have n5 : M2 5 5 = nI op := by rw [bg 5 5 (by intro q; have := puA_c q; omega)]; exact h5
  have n3 : M2 5 3 = nI t := by rw [bg 5 3 (by intro q; have := puA_c q; omega)]; exact hal.1
  have n6 : M2 5 6 = 0 := by rw [bg 5 6 (by intro q; have := puA_c q; omega)]; exact hal.2
  have n12 : ∀ j, M2 12 j = M1 12 j := fun j => bg 12 j (by intro q; have := puA_c q; omega)
  refine zT_bd (zT_w (X5_await hp (w := (popS (bondR (K t)) stk).2.length) (by omega) b4 (ckF (K t))) ?_)
  rintro M3 ⟨d1, d2, d3, g3⟩
  have vk : ∀ j, j ≠ 4 → M3 5 j = M2 5 j := fun j hj => g3 5 j (by omega)
  have vO : ∀ b j, b ≠ 5 → b ≠ 12 → M3 b j = M2 b j := fun b j hb hb2 => g3 b j (by omega)
  have gM : zag (rsA a) M1 M3 := (bg.mo (fun b j q => Or.inl q)).tr (g3.mo (fun b j q => by
    rcases q with q | q
    · exact Or.inr (Or.inl q)
    · exact Or.inr (Or.inr ⟨q.1, by omega, by omega⟩)))
  have hk3 : tkC M3 L K V P c := hk.eq (fun j => gM 7 j (by unfold rsA; intro q; rcases q with q | q; have := puA_c q; omega; omega)) (fun j => gM 8 j (by unfold rsA; intro q; rcases q with q | q; have := puA_c q; omega; omega))
  refine zT_bd2 (zT_w (X5_takeY hp hk3 ⟨by rw [vk 3 (by omega)]; exact n3, by rw [vk 6 (by omega)]; exact n6⟩ p1 (d := K t) k1 rfl rfl) ?_)
  rintro ⟨r, M4⟩ ⟨hr, g4⟩
  simp only at hr g4 ⊢
  have f4 : M4 5 4 = nI ((popS (bondR (K t)) stk).2.length + 1) := by rw [g4 5 4 (by unfold tkA; omega)]; exact d1
  have f5 : M4 5 5 = nI op := by rw [g4 5 5 (by unfold tkA; omega), vk 5 (by omega)]; exact n5
  have fO : ∀ b j, b ≠ 5 → b ≠ 12 → M4 b j = M2 b j := fun b j hb hb2 => by rw [g4 b j (by unfold tkA; omega)]; exact vO b j hb hb2
  refine zT_some ⟨?_, gM.tr (g4.mo (fun b j q => Or.inr (Or.inr (tkA_c q))))⟩
  rcases hr with ⟨q, _, hfc⟩ | ⟨q, _, hal4⟩
  · refine Or.inr ⟨(2, t), ⟨hfc, ⟨_, by omega, f4⟩, op, by omega, f5⟩, fun fuel => ?_⟩
    rw [hsp]
    unfold sB goS
    rw [if_pos q]
  · have tc : t + 1 ≤ c := by
      rcases hKc t p1 k0 with w | w
      · exact w
      · exact absurd w q
    refine Or.inl ⟨op, K t :: (popS (bondR (K t)) stk).2, out ++ (popS (bondR (K t)) stk).1, ⟨hal4, f4, f5, ⟨?_, zStk.eq _ (fun j hj => ?_) (zStk_pop _ stk hS)⟩, by rw [fO a 3 (by omega) (by omega)]; exact b3, zAt.eq (fun j => fO _ j (by omega) (by omega)) (fun j => fO _ j (by omega) (by omega)) _ _ bz, fun j hj => ?_, fun w => ?_⟩, ⟨tc, p2, ?_, ?_⟩, fun fuel => ?_⟩
    · rw [List.length_map, g4 12 _ (by unfold tkA; omega), d2]
    · rw [List.length_map] at hj
      rw [g4 12 j (by unfold tkA; omega), d3 j (by omega), n12]
    · obtain ⟨w1, w2⟩ := (hb.tr bb (by omega)) j hj
      rw [fO _ j (by omega) (by omega), fO _ j (by omega) (by omega)]
      exact ⟨w1, w2⟩
    · rw [fO a 4 (by omega) (by omega)] at w
      obtain ⟨w3, w4⟩ := hf (bf w)
      exact ⟨w3, nlE_app w4 (popS_nl _ stk)⟩
    · unfold wfS
      rw [if_neg k6]
      exact ⟨kk, q2, q1⟩
    · rw [List.length_append, opsN_c, if_neg k6]
      omega
    · rw [hsp]
      unfold sB goS
      rw [if_neg q]
/-- an E, after a fault -/
theorem X5_sumDead {a : Nat} {f : tF} (hp : zRp R) (hR : zLr R a) (ha : 12 < a) (hf : FC P f M) : zT (f_X5_readSum R M L 5 a) (fun M1 => FC P f M1 ∧ zag (rsA a) M M1) := by
  unfold f_X5_readSum
  refine zT_lt (zT_lt (zT_bd ?_))
  have g : zag (rsA a) M (zup (zup M 5 4 0) 5 5 0) := (zag.rf.up (Or.inr (Or.inr ⟨rfl, by omega, by omega⟩))).up (Or.inr (Or.inr ⟨rfl, by omega, by omega⟩))
  have hf2 : FC P f (zup (zup M 5 4 0) 5 5 0) := hf.eq (by rw [zup_k (by omega), zup_k (by omega)]) (by rw [zup_k (by omega), zup_k (by omega)])
  have v4 : zup (zup M 5 4 0) 5 5 0 5 4 = 0 := by rw [zup_k (by omega), zup_same]
  have v5 : zup (zup M 5 4 0) 5 5 0 5 5 = 0 := zup_same
  generalize zup (zup M 5 4 0) 5 5 0 = M2 at g hf2 v4 v5 ⊢
  refine zT_loop (fun _ v => v.2.2 = M2) 0 rfl (by omega) ?_
  rintro m ⟨x2, x3, M3⟩ h
  obtain rfl : M3 = M2 := h
  unfold b_X5_readSum_14
  have hx : zT (if M3 5 5 ≤ 0 then j_X5_readSum_129 R M3 L 5 a else zbd (f_X5_failAt R M3 5 (M3 5 3) 1) fun M24 => j_X5_readSum_129 R M24 L 5 a) (fun M1 => FC P f M1 ∧ zag (rsA a) M M1) := by
    refine zT_if1 (by rw [v5]; decide) ?_
    unfold j_X5_readSum_129
    refine zT_bd (zT_w (X5_putT hp hR ha 1 ⟨0, by omega, v4⟩) ?_)
    rintro M4 ⟨g4, _⟩
    exact zT_some ⟨hf2.eq (g4 5 6 (by intro q; have := puA_c q; omega)) (g4 5 7 (by intro q; have := puA_c q; omega)), g.tr (g4.mo (fun b j q => Or.inl q))⟩
  exact zT_if (fun _ => zT_some hx) (fun _ => zT_if0 hf2.ne (zT_some hx))
/-- an E -/
theorem X5_sum {a s0 : Nat} (hp : zRp R) (hR : zLr R a) (ha : 12 < a) (hk : tkC M L K V P c) (hal : AL t M) (ht : t ≤ c) (h3 : M a 3 = nI s0) (hs0 : s0 < t) (hKc : ∀ i, i ≤ c → K i ≠ 0 → i < c ∨ i = 400) : zT (f_X5_readSum R M L 5 a) (fun M1 => oC P (exS K V t) (fun r M1 => AL r.1 M1 ∧ M1 a 3 = nI (s0 + r.2.length) ∧ zAt M1 (a + 1) (a + 2) s0 (fE r.2) ∧ blw a s0 M M1 ∧ (M1 a 4 = 0 → M a 4 = 0 ∧ nlE r.2)) M1 ∧ zag (rsA a) M M1) := by
  have c400 := hk.1
  obtain ⟨res, hres⟩ : ∃ res, exS K V t = res := ⟨_, rfl⟩
  rw [hres]
  unfold exS at hres
  unfold f_X5_readSum
  refine zT_lt (zT_lt (zT_bd ?_))
  have g0 : zag (rsA a) M (zup (zup M 5 4 0) 5 5 0) := (zag.rf.up (Or.inr (Or.inr ⟨rfl, by omega, by omega⟩))).up (Or.inr (Or.inr ⟨rfl, by omega, by omega⟩))
  have A0 : aliveS a s0 M (zup (zup M 5 4 0) 5 5 0) t 0 [] [] := by
    refine ⟨⟨?_, ?_⟩, ?_, zup_same, trivial, ?_, trivial, fun j hj => ?_, fun w => ?_⟩
    · rw [zup_k (by omega), zup_k (by omega)]; exact hal.1
    · rw [zup_k (by omega), zup_k (by omega)]; exact hal.2
    · rw [zup_k (by omega), zup_same]; rfl
    · rw [zup_a (by omega), zup_a (by omega)]; exact h3
    · rw [zup_a (by omega), zup_a (by omega), zup_a (by omega), zup_a (by omega)]; exact ⟨rfl, rfl⟩
    · rw [zup_a (by omega), zup_a (by omega)] at w
      exact ⟨w, fun i hi => absurd hi (by simp)⟩
  generalize zup (zup M 5 4 0) 5 5 0 = M0 at g0 A0 ⊢
  refine zT_loop (Q := sumQ R M L P a s0 res) (sumI M K V P c t a s0 res) (402 - t) ⟨g0, Or.inl ⟨0, t, 0, [], [], true, rfl, rfl, rfl, by omega, A0, ⟨ht, by omega, rfl, by show 0 + 0 + t ≤ t; omega⟩, hres⟩⟩ (by omega) ?_
  have deadX : ∀ (M1 : zM) (f : tF), zag (rsA a) M M1 → deadS P f M1 → res = .inl f → sumQ R M L P a s0 res M1 := by
    rintro M1 f g1 ⟨hfc, hw, _⟩ hr
    have J : zT (j_X5_readSum_129 R M1 L 5 a) (fun M1 => oC P res (fun r M1 => AL r.1 M1 ∧ M1 a 3 = nI (s0 + r.2.length) ∧ zAt M1 (a + 1) (a + 2) s0 (fE r.2) ∧ blw a s0 M M1 ∧ (M1 a 4 = 0 → M a 4 = 0 ∧ nlE r.2)) M1 ∧ zag (rsA a) M M1) := by
      unfold j_X5_readSum_129
      refine zT_bd (zT_w (X5_putT hp hR ha 1 hw) ?_)
      rintro M4 ⟨g4, _⟩
      rw [hr]
      exact zT_some ⟨hfc.eq (g4 5 6 (by intro q; have := puA_c q; omega)) (g4 5 7 (by intro q; have := puA_c q; omega)), g1.tr (g4.mo (fun b j q => Or.inl q))⟩
    unfold sumQ
    exact zT_if (fun _ => J) (fun _ => zT_bd (zT_eq (X5_deadF hfc.ne _ _) J))
  rintro m ⟨x2, x3, M1⟩ ⟨g1, h⟩
  simp only at g1 h
  rcases h with ⟨i, t1, op, stk, out, due, rfl, rfl, rfl, hi, hA, hP, hr⟩ | ⟨rfl, f, hd, hr⟩
  case inr =>
    unfold b_X5_readSum_14
    exact zT_if (fun _ => zT_some (deadX M1 f g1 hd hr)) (fun _ => zT_if0 hd.1.ne (zT_some (deadX M1 f g1 hd hr)))
  have hk1 : tkC M1 L K V P c := hk.eq (fun j => g1 7 j (by unfold rsA; intro q; rcases q with q | q; have := puA_c q; omega; omega)) (fun j => g1 8 j (by unfold rsA; intro q; rcases q with q | q; have := puA_c q; omega; omega))
  obtain ⟨k1, k7, k8, k9⟩ := hk1.2 t1 hP.1
  have t1c := hP.1
  have tt : t ≤ t1 := by have := hP.2.2.2; omega
  have nx : ∀ (s : Int32) (due1 : Bool) (M2 : zM), s = (if due1 = true then 1 else 0) → nxtS K V P c a s0 t M t1 op stk out due due1 M2 ∧ zag (rsA a) M1 M2 → ∃ k1, k1 < 402 - t1 ∧ sumI M K V P c t a s0 res k1 (s, nI i + 1, M2) := by
    rintro s due1 M2 hs ⟨hn, g2⟩
    rw [show 401 - t1 = (400 - t1) + 1 by omega] at hr
    rcases hn with ⟨op1, stk1, out1, a1, a2, a3⟩ | ⟨f, a1, a2⟩
    · have := a2.1
      refine ⟨402 - (t1 + 1), by omega, g1.tr g2, Or.inl ⟨i + 1, t1 + 1, op1, stk1, out1, due1, rfl, hs, nI_1 i, by omega, a1, a2, ?_⟩⟩
      rw [← hr, a3, show 401 - (t1 + 1) = 400 - t1 by omega]
    · refine ⟨0, by omega, g1.tr g2, Or.inr ⟨rfl, f, a1, ?_⟩⟩
      rw [← hr, a2]
  unfold b_X5_readSum_14
  refine zT_if0 (by rw [nI_lit 400]; exact nI_nlt (by omega) (by omega)) (zT_if1 hA.1.2 ?_)
  dsimp only
  rw [hp.2.1, hA.1.1]
  refine zT_bd (zT_eq (X9_kind hp (by omega)) ?_)
  rw [k7]
  cases due with
  | true =>
    refine zT_if0 (by decide) ?_
    have J : ∀ (s : Int32), s = (if decide (K t1 = 6) = true then 1 else 0) → zT (j_X5_readSum_57 R M1 L 5 a (nI i) (ckF (K t1)) s) (Sum.elim (fun v1 => ∃ k1, k1 < 402 - t1 ∧ sumI M K V P c t a s0 res k1 v1) (sumQ R M L P a s0 res)) := fun s hs => by
      unfold j_X5_readSum_57
      refine zT_bd (zT_w (X5_unit hp hR ha hk1 hA hP hs0 hKc) ?_)
      intro M2 h2
      exact zT_some (nx s _ M2 hs h2)
    by_cases c6 : K t1 = 6
    · exact zT_if1 (by rw [c6]; decide) (J 1 (by rw [decide_eq_true c6]; rfl))
    · exact zT_if0 (fun z => c6 ((ck_is 6 k1 (by decide) (by decide)).1 z)) (J 0 (by rw [decide_eq_false c6]; rfl))
  | false =>
    refine zT_if1 rfl ?_
    have J : ¬ (K t1 = 7 ∧ 0 < op) → zT (j_X5_readSum_90 R M1 L 5 a (nI i) (ckF (K t1))) (Sum.elim (fun v1 => ∃ k1, k1 < 402 - t1 ∧ sumI M K V P c t a s0 res k1 v1) (sumQ R M L P a s0 res)) := fun hn => by
      unfold j_X5_readSum_90
      refine zT_bd (zT_eq (X5_bond k1) ?_)
      have b2 := bondR_2 (K t1)
      by_cases b0 : 0 < bondR (K t1)
      · refine zT_if0 (nI_np b0 (by omega)) (zT_bd (zT_w (X5_sign hp hR ha hk1 hA hP hs0 hKc b0) ?_))
        intro M2 h2
        exact zT_some (nx 1 true M2 rfl h2)
      · refine zT_if1 (by rw [show bondR (K t1) = 0 by omega]; decide) (zT_some ?_)
        obtain ⟨hal1, h4, h5, hS, h31, hz, hb, hf⟩ := hA
        have hln := hP.len
        obtain ⟨p1, p2, p3, p4⟩ := hP
        have hmem := wfS_mem stk op p3
        have hr2 : (if 0 < op then Sum.inl (1, t1) else Sum.inr (t1, out ++ (popS 1 stk).1)) = res := by
          rw [← hr, show 401 - t1 = (400 - t1) + 1 by omega]
          show _ = (if K t1 = 7 ∧ 0 < op then _ else _)
          rw [if_neg hn, if_neg b0]
        show sumQ R M L P a s0 res M1
        unfold sumQ
        by_cases o0 : 0 < op
        · rw [if_pos o0] at hr2
          refine zT_if0 (by rw [h5]; exact nI_np o0 (by omega)) ?_
          rw [hal1.1]
          refine zT_bd (zT_w (X5_failAt hp (k := 1) (by omega) k8 hal1.2 (Or.inl rfl)) ?_)
          rintro M2 ⟨hfc, g2⟩
          unfold j_X5_readSum_129
          refine zT_bd (zT_w (X5_putT hp hR ha 1 ⟨stk.length, by omega, by rw [g2 5 4 (by omega)]; exact h4⟩) ?_)
          rintro M4 ⟨g4, _⟩
          rw [← hr2]
          exact zT_some ⟨hfc.eq (g4 5 6 (by intro q; have := puA_c q; omega)) (g4 5 7 (by intro q; have := puA_c q; omega)), (g1.tr (g2.mo (fun b j q => Or.inr (Or.inr ⟨q.1, by omega, by omega⟩)))).tr (g4.mo (fun b j q => Or.inl q))⟩
        · rw [if_neg o0] at hr2
          refine zT_if1 (by rw [h5, show op = 0 by omega]; decide) ?_
          have hput := X5_put (lb := 1) hp hR ha (by omega) (fun w hw => stk_kd (hmem w hw)) hmem h4 hln.1 hS h31 (by omega) hz
          rw [← nI_lit 1] at hput
          unfold j_X5_readSum_129
          refine zT_bd (zT_w hput ?_)
          rintro M2 ⟨b4, b3, bz, bb, bf, bg⟩
          rw [← hr2]
          refine zT_some ⟨⟨⟨?_, ?_⟩, b3, bz, hb.tr bb (by omega), fun w => ?_⟩, g1.tr (bg.mo (fun b j q => Or.inl q))⟩
          · rw [bg 5 3 (by intro q; have := puA_c q; omega)]; exact hal1.1
          · rw [bg 5 6 (by intro q; have := puA_c q; omega)]; exact hal1.2
          · obtain ⟨w3, w4⟩ := hf (bf w)
            exact ⟨w3, nlE_app w4 (popS_nl 1 stk)⟩
    by_cases c7 : K t1 = 7
    · refine zT_if1 (by rw [c7]; decide) ?_
      by_cases o0 : 0 < op
      · refine zT_if0 (by rw [hA.2.2.1]; exact nI_np o0 (by have := hP.2.1; omega)) (zT_bd (zT_w (X5_close hp hR ha hk1 hA hP hs0 hKc c7 o0) ?_))
        intro M2 h2
        exact zT_some (nx 0 false M2 rfl h2)
      · exact zT_if1 (by rw [hA.2.2.1, show op = 0 by omega]; decide) (J (fun z => o0 z.2))
    · exact zT_if0 (fun z => c7 ((ck_is 7 k1 (by decide) (by decide)).1 z)) (J (fun z => c7 z.1))
end CLS

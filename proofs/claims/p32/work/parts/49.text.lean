/-! READ, on the class's side: an E */ -/
theorem wfS_mem : ∀ (s : List Int32) (op : Nat), wfS s op → ∀ w, w ∈ s → w = 6 ∨ w = 8 ∨ w = 9 ∨ w = 10 ∨ w = 15
  | [], _, _, w, h => absurd h (by simp)
  | v :: s, op, h, w, hw => by
    unfold wfS at h
    rcases List.mem_cons.1 hw with rfl | hw
    · by_cases c : w = 6
      · exact Or.inl c
      · rw [if_neg c] at h
        exact Or.inr h.1
    · by_cases c : v = 6
      · rw [if_pos c] at h
        exact wfS_mem s _ h.2 w hw
      · rw [if_neg c] at h
        exact wfS_mem s _ h.2.2 w hw
theorem stk_kd {w : Int32} (h : w = 6 ∨ w = 8 ∨ w = 9 ∨ w = 10 ∨ w = 15) : w ∈ kdL := by
  rcases h with rfl | rfl | rfl | rfl | rfl <;> decide
def nlE (e : zEx) : Prop := ∀ i, i ∈ e → i.1 = 1 → i.2 ≠ 5
def rsA (a : Nat) : Nat → Nat → Prop := fun b k => puA a b k ∨ b = 12 ∨ (b = 5 ∧ 3 ≤ k ∧ k ≤ 7)
theorem zStk.eq {M M1 : zM} {b : Nat} : ∀ (l : List Int32), (∀ i, i < l.length → M1 b i = M b i) → zStk M b l → zStk M1 b l
  | [], _, _ => trivial
  | x :: l, h, q => ⟨by rw [h _ (by simp)]; exact q.1, zStk.eq l (fun i hi => h i (by simp; omega)) q.2⟩
section CLS
variable {R : zR} {M : zM} {L : zL} {K V P : Nat → Int32} {c t : Nat}
theorem X5_await (hp : zRp R) {w : Nat} (hw : w < 21) (h : M 5 4 = nI w) (x : Int32) : zT (f_X5_await R M 5 x) (fun M1 => M1 5 4 = nI (w + 1) ∧ M1 12 w = x ∧ (∀ i, i ≠ w → M1 12 i = M 12 i) ∧ zag (fun b k => b = 12 ∨ (b = 5 ∧ k = 4)) M M1) := by
  unfold f_X5_await
  rw [h, hp.2.2.2.1]
  refine zT_if0 (nI_pos (by omega)) (zT_if0 (by rw [nI_lit 21]; exact nI_ge hw (by omega)) (zT_lt (zT_ck (zin_nI hw (by omega)) (zT_lt (zT_some ⟨?_, ?_, fun i hi => ?_, (zag.rf.up (by omega)).up (by omega)⟩)))))
  · rw [zup_a (by omega), zup_same, nI_1]
  · rw [ztn_nI (by omega), zup_same]
  · rw [ztn_nI (by omega), zup_k hi, zup_a (by omega)]
theorem X5_takeY (hp : zRp R) (hk : tkC M L K V P c) (ha : AL t M) (ht : t ≤ c) {d x : Int32} (hd : d ∈ kdL) (hx : ckF d = x) (hK : K t = d) : zT (f_X5_take R M 5 x) (fun p => (t = 400 ∧ p.1 = 0 ∧ FC P (2, t) p.2 ∨ t ≠ 400 ∧ p.1 = 1 ∧ AL (t + 1) p.2) ∧ zag tkA M p.2) := by
  refine zT_w (X5_take hp hk ha ht hd hx) ?_
  rintro ⟨y, M1⟩ ⟨h1, h2⟩
  refine ⟨?_, h2⟩
  unfold mustS goS at h1
  rw [if_pos hK] at h1
  by_cases q : t = 400
  · rw [if_pos q] at h1
    exact Or.inl ⟨q, h1⟩
  · rw [if_neg q] at h1
    exact Or.inr ⟨q, h1⟩
theorem X5_takeN (hp : zRp R) (hk : tkC M L K V P c) (ha : AL t M) (ht : t ≤ c) {d x : Int32} (hd : d ∈ kdL) (hx : ckF d = x) (hK : ¬ K t = d) : zT (f_X5_take R M 5 x) (fun p => (p.1 = 0 ∧ FC P (1, t) p.2) ∧ zag tkA M p.2) := by
  refine zT_w (X5_take hp hk ha ht hd hx) ?_
  rintro ⟨y, M1⟩ ⟨h1, h2⟩
  unfold mustS at h1
  rw [if_neg hK] at h1
  exact ⟨h1, h2⟩
theorem tkA_c {b j : Nat} (q : tkA b j) : b = 5 ∧ 3 ≤ j ∧ j ≤ 7 := by
  obtain ⟨q1, q2⟩ := q
  omega
def aliveS (a s0 : Nat) (M M1 : zM) (t op : Nat) (stk : List Int32) (out : zEx) : Prop := AL t M1 ∧ M1 5 4 = nI stk.length ∧ M1 5 5 = nI op ∧ zStk M1 12 (stk.map ckF) ∧ M1 a 3 = nI (s0 + out.length) ∧ zAt M1 (a + 1) (a + 2) s0 (fE out) ∧ blw a s0 M M1 ∧ (M1 a 4 = 0 → M a 4 = 0 ∧ nlE out)
def pureS (c t0 t op : Nat) (stk : List Int32) (out : zEx) : Prop := t ≤ c ∧ op ≤ 6 ∧ wfS stk op ∧ out.length + opsN stk + t0 ≤ t
def deadS (P : Nat → Int32) (f : tF) (M1 : zM) : Prop := FC P f M1 ∧ wOK M1 ∧ ∃ o, o ≤ 7 ∧ M1 5 5 = nI o
def nxtS (K V P : Nat → Int32) (c a s0 t0 : Nat) (M : zM) (t op : Nat) (stk : List Int32) (out : zEx) (due due1 : Bool) (M2 : zM) : Prop := (∃ (op1 : Nat) (stk1 : List Int32) (out1 : zEx), aliveS a s0 M M2 (t + 1) op1 stk1 out1 ∧ pureS c t0 (t + 1) op1 stk1 out1 ∧ ∀ fuel, sumS K V (fuel + 1) t op stk out due = sumS K V fuel (t + 1) op1 stk1 out1 due1) ∨ (∃ f, deadS P f M2 ∧ ∀ fuel, sumS K V (fuel + 1) t op stk out due = .inl f)
theorem pureS.len {c t0 t op : Nat} {stk : List Int32} {out : zEx} (h : pureS c t0 t op stk out) : stk.length ≤ 20 ∧ opsN stk ≤ 2 * op + topB stk := by
  obtain ⟨_, h2, h3, _⟩ := h
  have a := wfS_n stk op h3
  have b := topB_2 stk
  exact ⟨by omega, a.1⟩
/-- a value's step -/
theorem X5_unitV {a s0 t0 op : Nat} {stk : List Int32} {out : zEx} {M1 : zM} (hp : zRp R) (hR : zLr R a) (ha : 12 < a) (hk : tkC M1 L K V P c) (hA : aliveS a s0 M M1 t op stk out) (hP : pureS c t0 t op stk out) (hs0 : s0 < t0) (hKc : ∀ i, i ≤ c → K i ≠ 0 → i < c ∨ i = 400) {k y x d z : Int32} (hs : stepOf k = y) (hy3 : y ≠ 3) (hd : d ∈ kdL) (hx : ckF d = z) (hd0 : d ≠ 0) (hK : K t = d) (hnl : y = 2 ∧ x = 5 ∨ ¬ (k = 1 ∧ x = 5)) (hsp : ∀ fuel, sumS K V (fuel + 1) t op stk out true = sB (goS t) fun t1 => sumS K V fuel t1 op stk (out ++ [(k, x)]) false) : zT (zbd (f_X3_add R M1 a y x) fun M5 => zbd2 (f_X5_take R M5 5 z) fun r7 M8 => some M8) (fun M2 => nxtS K V P c a s0 t0 M t op stk out true false M2 ∧ zag (rsA a) M1 M2) := by
  obtain ⟨hal, h4, h5, hS, h3, hz, hb, hf⟩ := hA
  have hln := hP.len
  obtain ⟨p1, p2, p3, p4⟩ := hP
  have c400 := hk.1
  refine zT_bd (zT_w (X3_addE hR h3 (by omega) hz hs hy3 (x := x)) ?_)
  rintro M2 ⟨a1, a2, a3, a4, a5⟩
  have n5 : ∀ j, M2 5 j = M1 5 j := fun j => a5 5 j (by unfold adA; omega)
  have n12 : ∀ j, M2 12 j = M1 12 j := fun j => a5 12 j (by unfold adA; omega)
  have hk2 : tkC M2 L K V P c := hk.eq (fun j => a5 7 j (by unfold adA; omega)) (fun j => a5 8 j (by unfold adA; omega))
  refine zT_bd2 (zT_w (X5_takeY hp hk2 ⟨by rw [n5]; exact hal.1, by rw [n5]; exact hal.2⟩ p1 hd hx hK) ?_)
  rintro ⟨r, M3⟩ ⟨hr, g3⟩
  simp only at hr g3 ⊢
  refine zT_some ⟨?_, (a5.mo (fun b j q => Or.inl (Or.inl q))).tr (g3.mo (fun b j q => Or.inr (Or.inr (tkA_c q))))⟩
  have e5 : ∀ j, j = 4 ∨ j = 5 → M3 5 j = M1 5 j := fun j hj => by rw [g3 5 j (by unfold tkA; omega), n5]
  have eO : ∀ b j, b ≠ 5 → M3 b j = M2 b j := fun b j hb => g3 b j (by unfold tkA; omega)
  rcases hr with ⟨q, _, hfc⟩ | ⟨q, _, hal3⟩
  · refine Or.inr ⟨(2, t), ⟨hfc, ⟨stk.length, by omega, by rw [e5 4 (Or.inl rfl)]; exact h4⟩, op, by omega, by rw [e5 5 (Or.inr rfl)]; exact h5⟩, fun fuel => ?_⟩
    rw [hsp]
    unfold sB goS
    rw [if_pos q]
  · have tc : t + 1 ≤ c := by
      rcases hKc t p1 (by rw [hK]; exact hd0) with w | w
      · exact w
      · exact absurd w q
    refine Or.inl ⟨op, stk, out ++ [(k, x)], ⟨hal3, by rw [e5 4 (Or.inl rfl)]; exact h4, by rw [e5 5 (Or.inr rfl)]; exact h5, zStk.eq _ (fun j _ => by rw [eO 12 j (by omega), n12]) hS, by rw [eO a 3 (by omega)]; exact a1, zAt.eq (fun j => eO _ j (by omega)) (fun j => eO _ j (by omega)) _ _ a2, ?_, ?_⟩, ⟨tc, p2, p3, by rw [List.length_append]; simp only [List.length_singleton]; omega⟩, fun fuel => ?_⟩
    · intro j hj
      obtain ⟨w1, w2⟩ := (hb.tr a3 (by omega)) j hj
      rw [eO _ j (by omega), eO _ j (by omega)]
      exact ⟨w1, w2⟩
    · intro w
      rw [eO a 4 (by omega)] at w
      obtain ⟨w1, w2⟩ := a4 w
      obtain ⟨w3, w4⟩ := hf w1
      refine ⟨w3, fun j hj hj1 => ?_⟩
      rcases List.mem_append.1 hj with hj | hj
      · exact w4 j hj hj1
      · have : j = (k, x) := by simpa using hj
        rw [this] at hj1 ⊢
        rcases hnl with u | u
        · exact absurd u w2
        · exact fun v => u ⟨hj1, v⟩
    · rw [hsp]
      unfold sB goS
      rw [if_neg q]
/-- a ( -/
theorem X5_unitO {a s0 t0 op : Nat} {stk : List Int32} {out : zEx} {M1 : zM} (hp : zRp R) (ha : 12 < a) (hk : tkC M1 L K V P c) (hA : aliveS a s0 M M1 t op stk out) (hP : pureS c t0 t op stk out) (hKc : ∀ i, i ≤ c → K i ≠ 0 → i < c ∨ i = 400) (hK : K t = 6) : zT (f_X5_readUnit R M1 L 5 a 40) (fun M2 => nxtS K V P c a s0 t0 M t op stk out true true M2 ∧ zag (rsA a) M1 M2) := by
  obtain ⟨hal, h4, h5, hS, h3, hz, hb, hf⟩ := hA
  have hln := hP.len
  obtain ⟨p1, p2, p3, p4⟩ := hP
  have c400 := hk.1
  have hsp : ∀ fuel, sumS K V (fuel + 1) t op stk out true = if op = 6 then .inl (2, t) else sB (goS t) fun t1 => sumS K V fuel t1 (op + 1) (6 :: stk) out true := fun fuel => by
    show (if K t = 6 then _ else _) = _
    rw [if_pos hK]
  unfold f_X5_readUnit
  refine zT_if1 rfl ?_
  rw [h5]
  by_cases o6 : op = 6
  · refine zT_if0 (by rw [o6]; decide) ?_
    rw [hal.1]
    refine zT_bd (zT_w (X5_failAt hp (by omega) (hk.2 t p1).2.2.1 hal.2 (Or.inr rfl)) ?_)
    rintro M2 ⟨hfc, g2⟩
    unfold j_X5_readUnit_24
    have e54 : M2 5 4 = nI stk.length := by rw [g2 5 4 (by omega)]; exact h4
    have e55 : M2 5 5 = nI op := by rw [g2 5 5 (by omega)]; exact h5
    refine zT_lt ?_
    rw [e55, nI_1]
    refine zT_bd (zT_w (X5_await hp (w := stk.length) (by omega) (by rw [zup_k (by omega)]; exact e54) 40) ?_)
    rintro M3 ⟨b1, b2, b3, g3⟩
    have hfc3 : FC P (2, t) M3 := hfc.eq (by rw [g3 5 6 (by omega), zup_k (by omega)]) (by rw [g3 5 7 (by omega), zup_k (by omega)])
    refine zT_bd2 (zT_eq (X5_dead hfc3.ne 40) (zT_some ⟨Or.inr ⟨(2, t), ⟨hfc3, ⟨stk.length + 1, by omega, b1⟩, op + 1, by omega, by dsimp only; rw [g3 5 5 (by omega), zup_same]⟩, fun fuel => by rw [hsp, if_pos o6]⟩, ?_⟩))
    exact ((g2.mo (fun b j q => Or.inr (Or.inr ⟨q.1, by omega, by omega⟩))).up (Or.inr (Or.inr ⟨rfl, by omega, by omega⟩))).tr (g3.mo (fun b j q => by
      rcases q with q | q
      · exact Or.inr (Or.inl q)
      · exact Or.inr (Or.inr ⟨q.1, by omega, by omega⟩)))
  · refine zT_if1 (by rw [nI_lit 6]; exact nI_lt (by omega) (by omega)) ?_
    unfold j_X5_readUnit_24
    refine zT_lt ?_
    rw [h5, nI_1]
    refine zT_bd (zT_w (X5_await hp (w := stk.length) (by omega) (by rw [zup_k (by omega)]; exact h4) 40) ?_)
    rintro M3 ⟨b1, b2, b3, g3⟩
    have eO : ∀ b j, b ≠ 5 → b ≠ 12 → M3 b j = M1 b j := fun b j q1 q2 => by rw [g3 b j (by omega), zup_a (by omega)]
    have e5 : ∀ j, j ≠ 4 → j ≠ 5 → M3 5 j = M1 5 j := fun j q1 q2 => by rw [g3 5 j (by omega), zup_k (by omega)]
    have hk3 : tkC M3 L K V P c := hk.eq (fun j => eO 7 j (by omega) (by omega)) (fun j => eO 8 j (by omega) (by omega))
    refine zT_bd2 (zT_w (X5_takeY hp hk3 ⟨by rw [e5 3 (by omega) (by omega)]; exact hal.1, by rw [e5 6 (by omega) (by omega)]; exact hal.2⟩ p1 (d := 6) (by decide) (by decide) hK) ?_)
    rintro ⟨r, M4⟩ ⟨hr, g4⟩
    simp only at hr g4 ⊢
    have f55 : M4 5 5 = nI (op + 1) := by rw [g4 5 5 (by unfold tkA; omega), g3 5 5 (by omega), zup_same]
    have f54 : M4 5 4 = nI (stk.length + 1) := by rw [g4 5 4 (by unfold tkA; omega)]; exact b1
    have fO : ∀ b j, b ≠ 5 → b ≠ 12 → M4 b j = M1 b j := fun b j q1 q2 => by rw [g4 b j (by unfold tkA; omega), eO b j q1 q2]
    refine zT_some ⟨?_, ((zag.rf.up (Or.inr (Or.inr ⟨rfl, by omega, by omega⟩))).tr (g3.mo (fun b j q => by
      rcases q with q | q
      · exact Or.inr (Or.inl q)
      · exact Or.inr (Or.inr ⟨q.1, by omega, by omega⟩)))).tr (g4.mo (fun b j q => Or.inr (Or.inr (tkA_c q))))⟩
    rcases hr with ⟨q, _, hfc⟩ | ⟨q, _, hal4⟩
    · refine Or.inr ⟨(2, t), ⟨hfc, ⟨stk.length + 1, by omega, f54⟩, op + 1, by omega, f55⟩, fun fuel => ?_⟩
      rw [hsp, if_neg o6]
      unfold sB goS
      rw [if_pos q]
    · have tc : t + 1 ≤ c := by
        rcases hKc t p1 (by rw [hK]; decide) with w | w
        · exact w
        · exact absurd w q
      refine Or.inl ⟨op + 1, 6 :: stk, out, ⟨hal4, f54, f55, ⟨?_, zStk.eq _ (fun j hj => ?_) hS⟩, by rw [fO a 3 (by omega) (by omega)]; exact h3, zAt.eq (fun j => fO _ j (by omega) (by omega)) (fun j => fO _ j (by omega) (by omega)) _ _ hz, fun j hj => ?_, fun w => ?_⟩, ⟨tc, by omega, ?_, ?_⟩, fun fuel => ?_⟩
      · rw [List.length_map, g4 12 _ (by unfold tkA; omega), b2]
        decide
      · rw [List.length_map] at hj
        rw [g4 12 j (by unfold tkA; omega), b3 j (by omega), zup_a (by omega)]
      · rw [fO _ j (by omega) (by omega), fO _ j (by omega) (by omega)]
        exact hb j hj
      · rw [fO a 4 (by omega) (by omega)] at w
        exact hf w
      · unfold wfS
        rw [if_pos rfl, Nat.add_sub_cancel]
        exact ⟨by omega, p3⟩
      · rw [opsN_c, if_pos rfl]
        omega
      · rw [hsp, if_neg o6]
        unfold sB goS
        rw [if_neg q]
end CLS

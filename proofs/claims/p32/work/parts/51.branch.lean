/-! READ, on the class's side: a law -/
theorem sB_l {α β : Type} {f : α → tF ⊕ β} {x : tF ⊕ α} {e : tF} (h : x = .inl e) : sB x f = .inl e := by rw [h]; rfl
theorem sB_r {α β : Type} {f : α → tF ⊕ β} {x : tF ⊕ α} {a : α} (h : x = .inr a) : sB x f = f a := by rw [h]; rfl
theorem sB_i {α β : Type} {f : α → tF ⊕ β} {x : tF ⊕ α} {b : β} (h : sB x f = .inr b) : ∃ a, x = .inr a ∧ f a = .inr b := by
  cases x with
  | inl e => cases h
  | inr a => exact ⟨a, rfl, h⟩
def endS (K : Nat → Int32) (c : Nat) : Prop := ∀ i, i ≤ c → K i ≠ 0 → i < c ∨ i = 400
theorem goS_ok {K : Nat → Int32} {c t t1 : Nat} (hK : endS K c) (ht : t ≤ c) (h0 : K t ≠ 0) (h : goS t = .inr t1) : t1 = t + 1 ∧ t1 ≤ c := by
  unfold goS at h
  by_cases q : t = 400
  · rw [if_pos q] at h
    cases h
  · rw [if_neg q] at h
    cases h
    rcases hK t ht h0 with w | w
    · exact ⟨rfl, w⟩
    · exact absurd w q
theorem mustS_ok {K : Nat → Int32} {c t t1 : Nat} {d : Int32} (hd : d ≠ 0) (hK : endS K c) (ht : t ≤ c) (h : mustS K d t = .inr t1) : t1 = t + 1 ∧ t1 ≤ c ∧ K t = d := by
  unfold mustS at h
  by_cases q : K t = d
  · rw [if_pos q] at h
    obtain ⟨a, b⟩ := goS_ok hK ht (by rw [q]; exact hd) h
    exact ⟨a, b, q⟩
  · rw [if_neg q] at h
    cases h
def valS (K V : Nat → Int32) (c : Nat) : Prop := ∀ i, i ≤ c → K i = 2 → 0 ≤ V i
theorem exS_ok {K V : Nat → Int32} {c t : Nat} {r : Nat × zEx} (hV : valS K V c) (hK : endS K c) (ht : t ≤ c) (h : exS K V t = .inr r) : dO r.2 0 ∧ t < r.1 ∧ r.1 ≤ c ∧ r.2.length + t ≤ r.1 := by
  obtain ⟨a, b, d, e, f⟩ := sumS_ok hV hK (401 - t) t 0 [] [] true r.1 r.2 ht (by omega) rfl rfl h
  have e0 : opsN ([] : List Int32) = 0 := rfl
  rw [e0] at e
  exact ⟨(dR_O _ _).1 a, f rfl, d, by simpa using e⟩
theorem braS_ok {K V : Nat → Int32} {c t : Nat} {r : Nat × (Option (zEx × zEx) × zEx)} (hV : valS K V c) (hK : endS K c) (ht : t ≤ c) (h0 : K t ≠ 0) (h : braS K V t = .inr r) : ∃ u v e, r.2 = (some (u, v), e) ∧ dB r.2 ∧ t + 4 ≤ r.1 ∧ r.1 ≤ c ∧ u.length + v.length + e.length + t + 4 ≤ r.1 := by
  unfold braS at h
  obtain ⟨t1, h1, h⟩ := sB_i h
  obtain ⟨r2, h2, h⟩ := sB_i h
  obtain ⟨t3, h3, h⟩ := sB_i h
  obtain ⟨r4, h4, h⟩ := sB_i h
  obtain ⟨t5, h5, h⟩ := sB_i h
  obtain ⟨r6, h6, h⟩ := sB_i h
  obtain ⟨t7, h7, h⟩ := sB_i h
  obtain ⟨a1, b1⟩ := goS_ok hK ht h0 h1
  obtain ⟨a2, b2, c2, d2⟩ := exS_ok hV hK b1 h2
  obtain ⟨a3, b3, _⟩ := mustS_ok (by decide) hK c2 h3
  obtain ⟨a4, b4, c4, d4⟩ := exS_ok hV hK b3 h4
  obtain ⟨a5, b5, _⟩ := mustS_ok (by decide) hK c4 h5
  obtain ⟨a6, b6, c6, d6⟩ := exS_ok hV hK b5 h6
  obtain ⟨a7, b7, _⟩ := mustS_ok (by decide) hK c6 h7
  cases h
  exact ⟨r2.2, r4.2, r6.2, rfl, ⟨a2, a4, a6⟩, by dsimp only; omega, b7, by dsimp only; omega⟩
theorem dP_app {P Q : zPr} (h : dP P) (h2 : dP Q) : dP (P ++ Q) := fun b hb => by
  rcases List.mem_append.1 hb with q | q
  · exact h b q
  · exact h2 b q
theorem dP_1 {g : Option (zEx × zEx) × zEx} (h : dB g) : dP [g] := fun b hb => by
  have : b = g := by simpa using hb
  rw [this]
  exact h
theorem ifsS_ok {K V : Nat → Int32} {c : Nat} (hV : valS K V c) (hK : endS K c) : ∀ (m t : Nat) (Q : zPr) (r : Nat × zPr), t ≤ c → dP Q → ifsS K V m t Q = .inr r → dP r.2 ∧ r.2 ≠ [] ∧ t < r.1 ∧ r.1 ≤ c
  | 0, _, _, _, _, _, h => by cases h
  | m + 1, t, Q, r, ht, hQ, h => by
    unfold ifsS at h
    by_cases c1 : K t = 30
    · rw [if_pos c1] at h
      by_cases c2 : m = 0
      · rw [if_pos c2] at h
        cases h
      rw [if_neg c2] at h
      obtain ⟨r1, h1, h⟩ := sB_i h
      obtain ⟨u, v, e, _, d, l1, l2, _⟩ := braS_ok hV hK ht (by rw [c1]; decide) h1
      obtain ⟨a1, a2, a3, a4⟩ := ifsS_ok hV hK m _ _ r l2 (dP_app hQ (dP_1 d)) h
      exact ⟨a1, a2, by omega, a4⟩
    · rw [if_neg c1] at h
      obtain ⟨r1, h1, h⟩ := sB_i h
      obtain ⟨t2, h2, h⟩ := sB_i h
      obtain ⟨a1, a2, a3, a4⟩ := exS_ok hV hK ht h1
      obtain ⟨b1, b2, _⟩ := mustS_ok (by decide) hK a3 h2
      cases h
      exact ⟨dP_app hQ (dP_1 a1), by simp, by dsimp only; omega, b2⟩
theorem lawS_ok {K V : Nat → Int32} {c t : Nat} {r : Nat × zPr} (hV : valS K V c) (hK : endS K c) (ht : t ≤ c) (h0 : K t ≠ 0) (h : lawS K V t = .inr r) : dP r.2 ∧ r.2 ≠ [] ∧ t < r.1 ∧ r.1 ≤ c := by
  unfold lawS at h
  obtain ⟨t1, h1, h⟩ := sB_i h
  obtain ⟨t2, h2, h⟩ := sB_i h
  obtain ⟨a1, b1⟩ := goS_ok hK ht h0 h1
  obtain ⟨a3, b3, _⟩ := mustS_ok (by decide) hK b1 h2
  obtain ⟨c1, c2, c3, c4⟩ := ifsS_ok hV hK 5 t2 [] r b3 (fun b hb => absurd hb (by simp)) h
  exact ⟨c1, c2, by omega, c4⟩
theorem fP_app : ∀ (P Q : zPr), fP (P ++ Q) = fP P ++ fP Q
  | [], _ => rfl
  | b :: P, Q => by
    show fB b ++ fP (P ++ Q) = (fB b ++ fP P) ++ fP Q
    rw [fP_app P Q, List.append_assoc]
theorem fP_1 (g : Option (zEx × zEx) × zEx) : fP [g] = fB g := by
  show fB g ++ [] = fB g
  rw [List.append_nil]
def nlB (b : Option (zEx × zEx) × zEx) : Prop := ∀ i, i ∈ inB b → i.1 = 1 → i.2 ≠ 5
theorem noLot_app {P : zPr} {g : Option (zEx × zEx) × zEx} (h : noLot P) (h2 : nlB g) : noLot (P ++ [g]) := fun b hb => by
  rcases List.mem_append.1 hb with q | q
  · exact h b q
  · have : b = g := by simpa using q
    rw [this]
    exact h2
/-! after a fault -/
def lwD (a : Nat) (M : zM) (P : Nat → Int32) (f : tF) (M1 : zM) : Prop := FC P f M1 ∧ zag (rsA a) M M1
section CLS
variable {R : zR} {M M1 : zM} {L : zL} {K V P : Nat → Int32} {c t a : Nat} {f : tF}
theorem lwD.take (h : lwD a M P f M1) (x : Int32) : zT (f_X5_take R M1 5 x) (fun p => lwD a M P f p.2 ∧ p.1 = 0) := zT_eq (X5_dead h.1.ne x) ⟨h, rfl⟩
theorem lwD.fail (h : lwD a M P f M1) (x y : Int32) : zT (f_X5_failAt R M1 5 x y) (lwD a M P f) := zT_eq (X5_deadF h.1.ne x y) h
theorem lwD.sum (hp : zRp R) (hR : zLr R a) (ha : 12 < a) (h : lwD a M P f M1) : zT (f_X5_readSum R M1 L 5 a) (lwD a M P f) := zT_w (X5_sumDead hp hR ha h.1) fun M2 q => ⟨q.1, h.2.tr q.2⟩
theorem lwD.add (hR : zLr R a) (ha : 12 < a) (h : lwD a M P f M1) (k x : Int32) : zT (f_X3_add R M1 a k x) (lwD a M P f) := zT_w (X3_addT hR k x) fun M2 q => ⟨h.1.eq (q 5 6 (by unfold adA; omega)) (q 5 7 (by unfold adA; omega)), h.2.tr (q.mo (fun b j w => Or.inl (Or.inl w)))⟩
theorem lwD.lead (hR : zLr R a) (ha : 12 < a) (h : lwD a M P f M1) (x : Int32) : zT (f_X3_leadHere R M1 a x) (lwD a M P f) := by
  unfold f_X3_leadHere
  rw [hR.2]
  refine zT_if (fun _ => zT_some h) (fun h0 => zT_if (fun _ => zT_some h) (fun h4 => ?_))
  obtain ⟨j, hj, ej⟩ := nI_of h0
  rw [ej] at h4 ⊢
  have hj4 : j < 400 := by
    rw [nI_lit 400, nI_leI (by omega) (by omega)] at h4
    omega
  exact zT_ck (zin_nI hj4 (by omega)) (zT_lt (zT_some ⟨h.1.eq (zup_a (by omega)) (zup_a (by omega)), h.2.up (Or.inl (Or.inl (Or.inr (Or.inl rfl))))⟩))
theorem X5_braD7 (hR : zLr R a) (ha : 12 < a) (h : lwD a M P f M1) (x : Int32) : zT (zbd (f_X3_leadHere R M1 a x) fun M23 => some M23) (lwD a M P f) := zT_bd (zT_w (h.lead hR ha x) fun M2 q => zT_some q)
theorem X5_braD6 (hR : zLr R a) (ha : 12 < a) (h : lwD a M P f M1) (x : Int32) : zT (zbd2 (f_X5_take R M1 5 (109 : Int32)) fun r20 M21 => zbd (f_X3_leadHere R M21 a x) fun M23 => some M23) (lwD a M P f) := zT_bd2 (zT_w (h.take _) fun p q => X5_braD7 hR ha q.1 x)
theorem X5_braD5 (hR : zLr R a) (ha : 12 < a) (h : lwD a M P f M1) (x : Int32) : zT (zbd (f_X3_add R M1 a (4 : Int32) (0 : Int32)) fun M18 => zbd2 (f_X5_take R M18 5 (109 : Int32)) fun r20 M21 => zbd (f_X3_leadHere R M21 a x) fun M23 => some M23) (lwD a M P f) := zT_bd (zT_w (h.add hR ha _ _) fun p q => X5_braD6 hR ha q x)
theorem X5_braD4 (hp : zRp R) (hR : zLr R a) (ha : 12 < a) (h : lwD a M P f M1) (x : Int32) : zT (zbd (f_X5_readSum R M1 L 5 a) fun M16 => zbd (f_X3_add R M16 a (4 : Int32) (0 : Int32)) fun M18 => zbd2 (f_X5_take R M18 5 (109 : Int32)) fun r20 M21 => zbd (f_X3_leadHere R M21 a x) fun M23 => some M23) (lwD a M P f) := zT_bd (zT_w (h.sum hp hR ha) fun p q => X5_braD5 hR ha q x)
theorem X5_braD2 (hp : zRp R) (hR : zLr R a) (ha : 12 < a) (h : lwD a M P f M1) (x : Int32) : zT (zbd (f_X3_add R M1 a (3 : Int32) (0 : Int32)) fun M11 => zbd2 (f_X5_take R M11 5 (108 : Int32)) fun r13 M14 => zbd (f_X5_readSum R M14 L 5 a) fun M16 => zbd (f_X3_add R M16 a (4 : Int32) (0 : Int32)) fun M18 => zbd2 (f_X5_take R M18 5 (109 : Int32)) fun r20 M21 => zbd (f_X3_leadHere R M21 a x) fun M23 => some M23) (lwD a M P f) := zT_bd (zT_w (h.add hR ha _ _) fun p q => zT_bd2 (zT_w (q.take _) fun p q => X5_braD4 hp hR ha q.1 x))
theorem X5_braD1 (hp : zRp R) (hR : zLr R a) (ha : 12 < a) (h : lwD a M P f M1) : zT (zbd (f_X5_readSum R M1 L 5 a) fun M9 => zbd (f_X3_add R M9 a (3 : Int32) (0 : Int32)) fun M11 => zbd2 (f_X5_take R M11 5 (108 : Int32)) fun r13 M14 => zbd (f_X5_readSum R M14 L 5 a) fun M16 => zbd (f_X3_add R M16 a (4 : Int32) (0 : Int32)) fun M18 => zbd2 (f_X5_take R M18 5 (109 : Int32)) fun r20 M21 => zbd (f_X3_leadHere R M21 a (M9 a 3)) fun M23 => some M23) (lwD a M P f) := zT_bd (zT_w (h.sum hp hR ha) fun p q => X5_braD2 hp hR ha q _)
/-- as long as there is none -/
def lwS (c a s0 z : Nat) (M : zM) (t : Nat) (cs : List (Int32 × Int32 × Nat)) (nl : Prop) (M1 : zM) : Prop := AL t M1 ∧ t ≤ c ∧ s0 + cs.length + z ≤ t ∧ M1 a 3 = nI (s0 + cs.length) ∧ zAt M1 (a + 1) (a + 2) s0 cs ∧ blw a s0 M M1 ∧ (M1 a 4 = 0 → M a 4 = 0 ∧ nl) ∧ zag (rsA a) M M1
theorem rsA_k {a b k : Nat} (ha : 12 < a) (h : rsA a b k) : b ≠ 7 ∧ b ≠ 8 := by
  rcases h with q | q
  · have := puA_c q
    omega
  · omega
variable {s0 z : Nat} {cs : List (Int32 × Int32 × Nat)} {nl : Prop}
theorem lwS.take (hp : zRp R) (ha : 12 < a) (hk : tkC M L K V P c) (hK : endS K c) (h : lwS c a s0 z M t cs nl M1) {d x : Int32} (hd : d ∈ kdL) (hx : ckF d = x) (h0 : d ≠ 0) : zT (f_X5_take R M1 5 x) (fun p => (∃ f, mustS K d t = .inl f ∧ p.1 = 0 ∧ lwD a M P f p.2) ∨ (∃ t1, mustS K d t = .inr t1 ∧ p.1 = 1 ∧ lwS c a s0 (z + 1) M t1 cs nl p.2)) := by
  obtain ⟨h1, h2, h3, h4, h5, h6, h7, h8⟩ := h
  have hk1 : tkC M1 L K V P c := hk.eq (fun j => h8 7 j (fun q => (rsA_k ha q).1 rfl)) (fun j => h8 8 j (fun q => (rsA_k ha q).2 rfl))
  refine zT_w (X5_take hp hk1 h1 h2 hd hx) ?_
  rintro ⟨r, M2⟩ ⟨hm, g⟩
  have gg : zag (rsA a) M M2 := h8.tr (g.mo (fun b j q => Or.inr (Or.inr (tkA_c q))))
  have fO : ∀ b j, b ≠ 5 → M2 b j = M1 b j := fun b j hb => g b j (by unfold tkA; omega)
  cases hh : mustS K d t with
  | inl f =>
    rw [hh] at hm
    exact Or.inl ⟨f, rfl, hm.1, hm.2, gg⟩
  | inr t1 =>
    rw [hh] at hm
    obtain ⟨e1, e2, _⟩ := mustS_ok h0 hK h2 hh
    refine Or.inr ⟨t1, rfl, hm.1, hm.2, e2, by omega, ?_, zAt.eq (fun j => fO _ j (by omega)) (fun j => fO _ j (by omega)) _ _ h5, fun j hj => ?_, fun w => h7 ?_, gg⟩
    · dsimp only
      rw [fO a 3 (by omega)]
      exact h4
    · dsimp only
      rw [fO _ j (by omega), fO _ j (by omega)]
      exact h6 j hj
    · rw [← fO a 4 (by omega)]
      exact w
theorem lwS.sum (hp : zRp R) (hR : zLr R a) (ha : 12 < a) (hk : tkC M L K V P c) (hK : endS K c) (hV : valS K V c) (h : lwS c a s0 1 M t cs nl M1) : zT (f_X5_readSum R M1 L 5 a) (fun M2 => (∃ f, exS K V t = .inl f ∧ lwD a M P f M2) ∨ (∃ r, exS K V t = .inr r ∧ lwS c a s0 1 M r.1 (cs ++ fE r.2) (nl ∧ nlE r.2) M2)) := by
  obtain ⟨h1, h2, h3, h4, h5, h6, h7, h8⟩ := h
  have hk1 : tkC M1 L K V P c := hk.eq (fun j => h8 7 j (fun q => (rsA_k ha q).1 rfl)) (fun j => h8 8 j (fun q => (rsA_k ha q).2 rfl))
  refine zT_w (X5_sum hp hR ha hk1 h1 h2 h4 (by omega) hK) ?_
  rintro M2 ⟨hm, g⟩
  cases hh : exS K V t with
  | inl f =>
    rw [hh] at hm
    exact Or.inl ⟨f, rfl, hm, h8.tr g⟩
  | inr r =>
    rw [hh] at hm
    obtain ⟨a1, a2, a3, a4, a5⟩ := hm
    obtain ⟨_, e2, e3, e4⟩ := exS_ok hV hK h2 hh
    refine Or.inr ⟨r, rfl, a1, e3, by rw [List.length_append, fE_len]; omega, by rw [a2, List.length_append, fE_len, Nat.add_assoc], zAt_app _ _ _ (zAt.eqr _ _ (fun i q1 q2 => a4 i q2) h5) a3, h6.tr a4 (by omega), fun w => ?_, h8.tr g⟩
    obtain ⟨w1, w2⟩ := a5 w
    obtain ⟨w3, w4⟩ := h7 w1
    exact ⟨w3, w4, w2⟩
theorem lwS.add4 (hR : zLr R a) (ha : 12 < a) (hc : c ≤ 400) (h : lwS c a s0 1 M t cs nl M1) : zT (f_X3_add R M1 a 4 0) (lwS c a s0 0 M t (cs ++ [(4, 0, 0)]) nl) := by
  obtain ⟨h1, h2, h3, h4, h5, h6, h7, h8⟩ := h
  refine zT_w (X3_add hR h4 (by omega) 4 0) ?_
  rintro M2 ⟨a1, a2, a3, a4, a5, g⟩
  have n5 : ∀ j, M2 5 j = M1 5 j := fun j => g 5 j (by unfold adA; omega)
  refine ⟨⟨by rw [n5]; exact h1.1, by rw [n5]; exact h1.2⟩, h2, by rw [List.length_append, List.length_singleton]; omega, by rw [a1, List.length_append]; rfl, zAt_app _ _ _ (zAt.eqr _ _ (fun i q1 q2 => a4 i (by omega)) h5) ⟨a2, fun q => absurd q (by decide), fun q => absurd q (by decide), trivial⟩, h6.tr (fun i hi => a4 i (by omega)) (Nat.le_refl s0), fun w => h7 (a5 w).1, h8.tr (g.mo (fun b j q => Or.inl (Or.inl q)))⟩
/-- a branch -/
theorem X5_branch (hp : zRp R) (hR : zLr R a) (ha : 12 < a) (hk : tkC M L K V P c) (hK : endS K c) (hV : valS K V c) (h : lwS c a 0 1 M t cs nl M1) (h30 : K t = 30) : zT (f_X5_readBranch R M1 L 5 a) (fun M2 => (∃ f, braS K V t = .inl f ∧ lwD a M P f M2) ∨ (∃ r, braS K V t = .inr r ∧ lwS c a 0 1 M r.1 (cs ++ fB r.2) (nl ∧ nlB r.2) M2)) := by
  have c400 := hk.1
  have bad : ∀ {f : tF} {M2 : zM}, braS K V t = .inl f → lwD a M P f M2 → (∃ f, braS K V t = .inl f ∧ lwD a M P f M2) ∨ (∃ r, braS K V t = .inr r ∧ lwS c a 0 1 M r.1 (cs ++ fB r.2) (nl ∧ nlB r.2) M2) := fun q1 q2 => Or.inl ⟨_, q1, q2⟩
  unfold f_X5_readBranch
  refine zT_bd2 (zT_w (h.take hp ha hk hK (d := 30) (by decide) (by decide) (by decide)) ?_)
  rintro ⟨r, M2⟩ hr
  have m30 : mustS K 30 t = goS t := if_pos h30
  rw [m30] at hr
  rcases hr with ⟨f, e1, _, hd⟩ | ⟨t1, e1, _, hs⟩
  · exact zT_bd (zT_w (hd.sum hp hR ha) fun M3 q => zT_bd2 (zT_w (q.take _) fun p q => zT_w (X5_braD1 hp hR ha q.1) fun M4 q => bad (sB_l e1) q))
  refine zT_bd (zT_w (lwS.sum hp hR ha hk hK hV ⟨hs.1, hs.2.1, by have := hs.2.2.1; omega, hs.2.2.2⟩) ?_)
  rintro M3 (⟨f, e2, hd⟩ | ⟨r2, e2, hs⟩)
  · exact zT_bd2 (zT_w (hd.take _) fun p q => zT_w (X5_braD1 hp hR ha q.1) fun M4 q => bad ((sB_r e1).trans (sB_l e2)) q)
  refine zT_bd2 (zT_w (hs.take hp ha hk hK (d := 13) (by decide) (by decide) (by decide)) ?_)
  rintro ⟨r, M4⟩ (⟨f, e3, _, hd⟩ | ⟨t3, e3, _, hs⟩)
  · exact zT_w (X5_braD1 hp hR ha hd) fun M4 q => bad ((sB_r e1).trans ((sB_r e2).trans (sB_l e3))) q
  refine zT_bd (zT_w (lwS.sum hp hR ha hk hK hV ⟨hs.1, hs.2.1, by have := hs.2.2.1; omega, hs.2.2.2⟩) ?_)
  rintro M5 (⟨f, e4, hd⟩ | ⟨r4, e4, hs⟩)
  · exact zT_w (X5_braD2 hp hR ha hd _) fun M4 q => bad ((sB_r e1).trans ((sB_r e2).trans ((sB_r e3).trans (sB_l e4)))) q
  obtain ⟨x1, x2, x3, x4, x5, x6, x7, x8⟩ := hs
  rw [Nat.zero_add] at x3 x4
  obtain ⟨A, hA⟩ : ∃ A, cs ++ fE r2.2 ++ fE r4.2 = A := ⟨_, rfl⟩
  rw [hA] at x3 x4 x5
  refine zT_bd (zT_w (X3_add hR x4 (by omega) 3 0) ?_)
  rintro M6 ⟨a1, a2, a3, a4, a5, g6⟩
  have n5 : ∀ j, M6 5 j = M5 5 j := fun j => g6 5 j (by unfold adA; omega)
  have g06 : zag (rsA a) M M6 := x8.tr (g6.mo (fun b j q => Or.inl (Or.inl q)))
  have hk6 : tkC M6 L K V P c := hk.eq (fun j => g06 7 j (fun q => (rsA_k ha q).1 rfl)) (fun j => g06 8 j (fun q => (rsA_k ha q).2 rfl))
  have hs6 : lwS c a (A.length + 1) 0 M6 r4.1 [] True M6 := ⟨⟨by rw [n5]; exact x1.1, by rw [n5]; exact x1.2⟩, x2, by rw [List.length_nil]; omega, a1, trivial, fun i _ => ⟨rfl, rfl⟩, fun w => ⟨w, trivial⟩, zag.rf⟩
  have D6 : ∀ {f : tF} {M7 : zM}, lwD a M6 P f M7 → lwD a M P f M7 := fun q => ⟨q.1, g06.tr q.2⟩
  refine zT_bd2 (zT_w (hs6.take hp ha hk6 hK (d := 31) (by decide) (by decide) (by decide)) ?_)
  rintro ⟨r, M7⟩ (⟨f, e5, _, hd⟩ | ⟨t5, e5, _, hs⟩)
  · exact zT_w (X5_braD4 hp hR ha (D6 hd) _) fun M4 q => bad ((sB_r e1).trans ((sB_r e2).trans ((sB_r e3).trans ((sB_r e4).trans (sB_l e5))))) q
  refine zT_bd (zT_w (lwS.sum hp hR ha hk6 hK hV hs) ?_)
  rintro M8 (⟨f, e6, hd⟩ | ⟨r6, e6, hs⟩)
  · exact zT_w (X5_braD5 hR ha (D6 hd) _) fun M4 q => bad ((sB_r e1).trans ((sB_r e2).trans ((sB_r e3).trans ((sB_r e4).trans ((sB_r e5).trans (sB_l e6)))))) q
  refine zT_bd (zT_w (hs.add4 hR ha c400) ?_)
  intro M9 hs
  refine zT_bd2 (zT_w (hs.take hp ha hk6 hK (d := 32) (by decide) (by decide) (by decide)) ?_)
  rintro ⟨r, M10⟩ (⟨f, e7, _, hd⟩ | ⟨t7, e7, _, hs⟩)
  · exact zT_w (X5_braD7 hR ha (D6 hd) _) fun M4 q => bad ((sB_r e1).trans ((sB_r e2).trans ((sB_r e3).trans ((sB_r e4).trans ((sB_r e5).trans ((sB_r e6).trans (sB_l e7))))))) q
  have hres : braS K V t = .inr (t7, (some (r2.2, r4.2), r6.2)) := (sB_r e1).trans ((sB_r e2).trans ((sB_r e3).trans ((sB_r e4).trans ((sB_r e5).trans ((sB_r e6).trans (sB_r e7))))))
  obtain ⟨y1, y2, y3, y4, y5, y6, y7, y8⟩ := hs
  dsimp only at y1 y4 y5 y6 y7 y8 ⊢
  rw [List.nil_append] at y3 y4 y5
  rw [List.length_append, fE_len, List.length_singleton] at y3 y4
  unfold f_X3_leadHere
  rw [hR.2, x4, y4]
  refine zT_bd (zT_if0 (nI_pos (by omega)) (zT_if0 (by rw [nI_lit 400]; exact nI_ge (by omega) (by omega)) (zT_ck (zin_nI (by omega) (by omega)) (zT_lt (zT_some (zT_some (Or.inr ⟨_, hres, ?_⟩)))))))
  rw [ztn_nI (by omega)]
  have l1 : (cs ++ fB (some (r2.2, r4.2), r6.2)).length = A.length + 1 + (r6.2.length + 1) := by
    rw [← hA]
    simp only [fB, List.length_append, List.length_cons, List.length_nil, fE_len]
    omega
  refine ⟨⟨by rw [zup_a (by omega)]; exact y1.1, by rw [zup_a (by omega)]; exact y1.2⟩, y2, by rw [l1]; dsimp only; omega, by rw [zup_a (by omega), l1, Nat.zero_add]; exact y4, ?_, fun i hi => absurd hi (by omega), fun w => ?_, (g06.tr y8).up (Or.inl (Or.inl (Or.inr (Or.inl rfl))))⟩
  · have e0 : cs ++ fB (some (r2.2, r4.2), r6.2) = A ++ ((3, 0, r6.2.length + 1) :: (fE r6.2 ++ [(4, 0, 0)])) := by
      rw [← hA]
      simp only [fB, List.append_assoc]
    rw [e0]
    refine zAt_app _ _ _ (zAt.eqr _ _ (fun i q1 q2 => ?_) x5) ⟨?_, fun q => absurd q (by decide), fun _ => ⟨?_, ?_⟩, ?_⟩
    · obtain ⟨b1, b2⟩ := y6 i (by omega)
      obtain ⟨b3, b4⟩ := a4 i (by omega)
      rw [zup_a (by omega), zup_k (by omega), b1, b2]
      exact ⟨b3, b4⟩
    · rw [zup_a (by omega), Nat.zero_add, (y6 A.length (by omega)).1]
      exact a2
    · rw [List.length_append, fE_len, List.length_singleton]
      exact Nat.le_refl _
    · rw [Nat.zero_add, zup_same]
    · rw [Nat.zero_add]
      refine zAt.eqr _ _ (fun i q1 q2 => ⟨by rw [zup_a (by omega)], by rw [zup_k (by omega)]⟩) y5
  · rw [zup_a (by omega)] at w
    obtain ⟨w1, _, w2⟩ := y7 w
    obtain ⟨w3, _⟩ := a5 w1
    obtain ⟨w4, ⟨w5, w6⟩, w7⟩ := x7 w3
    refine ⟨w4, w5, fun i hi => ?_⟩
    have hi : i ∈ r2.2 ++ (r4.2 ++ r6.2) := by
      simp only [inB, List.mem_append] at hi ⊢
      exact hi
    rcases List.mem_append.1 hi with q | q
    · exact w6 i q
    rcases List.mem_append.1 q with q | q
    · exact w7 i q
    · exact w2 i q
end CLS

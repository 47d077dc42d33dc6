/-! READ, on the reference's side: a law -/
def lenP (Q : zPr) : Nat := match Q with
  | [] => 0
  | g :: Q => lenB g + lenP Q
def lyZ (M : zM) : Nat → Nat → zPr → Prop
  | _, _, [] => True
  | b, p, g :: Q => lyB M b p g ∧ lyZ M (b + 1) (p + lenB g) Q
theorem lenP_app : ∀ (P Q : zPr), lenP (P ++ Q) = lenP P + lenP Q
  | [], Q => (Nat.zero_add _).symm
  | g :: P, Q => by
    show lenB g + lenP (P ++ Q) = lenB g + lenP P + lenP Q
    rw [lenP_app P Q]
    omega
theorem lenP_1 (g : Option (zEx × zEx) × zEx) : lenP [g] = lenB g := rfl
theorem lyZ.app {M : zM} : ∀ (P Q : zPr) (b p : Nat), lyZ M b p P → lyZ M (b + P.length) (p + lenP P) Q → lyZ M b p (P ++ Q)
  | [], _, _, _, _, h => h
  | g :: P, Q, b, p, h, h2 => by
    refine ⟨h.1, lyZ.app P Q (b + 1) (p + lenB g) h.2 ?_⟩
    rw [List.length_cons] at h2
    rw [show b + 1 + P.length = b + (P.length + 1) by omega, Nat.add_assoc]
    exact h2
theorem lyB.eq {M M1 : zM} {b p : Nat} {g : Option (zEx × zEx) × zEx} (h : lyB M b p g) (h0 : ∀ a, 260 ≤ a → a ≤ 264 → M1 a b = M a b) (h1 : ∀ a k, 265 ≤ a → a ≤ 266 → p ≤ k → k < p + lenB g → M1 a k = M a k) : lyB M1 b p g := by
  match g, h with
  | (none, e), ⟨a1, a2, a3, a4⟩ =>
    exact ⟨by rw [h0 260 (by omega) (by omega)]; exact a1, by rw [h0 263 (by omega) (by omega)]; exact a2, by rw [h0 264 (by omega) (by omega)]; exact a3, zCd.eqr _ _ (fun a k q1 q2 q3 q4 => h1 a k q1 q2 q3 q4) a4⟩
  | (some (u, v), e), ⟨a1, a2, a3, a4, a5, a6, a7, a8⟩ =>
    have l0 : lenB (some (u, v), e) = u.length + (v.length + e.length) := by
      unfold lenB inB
      rw [List.length_append, List.length_append]
    rw [l0] at h1
    exact ⟨by rw [h0 260 (by omega) (by omega)]; exact a1, by rw [h0 261 (by omega) (by omega)]; exact a2, by rw [h0 262 (by omega) (by omega)]; exact a3, by rw [h0 263 (by omega) (by omega)]; exact a4, by rw [h0 264 (by omega) (by omega)]; exact a5, zCd.eqr _ _ (fun a k q1 q2 q3 q4 => h1 a k q1 q2 (by omega) (by omega)) a6, zCd.eqr _ _ (fun a k q1 q2 q3 q4 => h1 a k q1 q2 (by omega) (by omega)) a7, zCd.eqr _ _ (fun a k q1 q2 q3 q4 => h1 a k q1 q2 (by omega) (by omega)) a8⟩
theorem lyZ.eq {M M1 : zM} : ∀ (Q : zPr) (b p : Nat), lyZ M b p Q → (∀ a k, 260 ≤ a → a ≤ 264 → b ≤ k → k < b + Q.length → M1 a k = M a k) → (∀ a k, 265 ≤ a → a ≤ 266 → p ≤ k → k < p + lenP Q → M1 a k = M a k) → lyZ M1 b p Q
  | [], _, _, _, _, _ => trivial
  | g :: Q, b, p, h, h0, h1 => by
    rw [List.length_cons] at h0
    have h1' : ∀ a k, 265 ≤ a → a ≤ 266 → p ≤ k → k < p + (lenB g + lenP Q) → M1 a k = M a k := h1
    exact ⟨h.1.eq (fun a q1 q2 => h0 a b q1 q2 (by omega) (by omega)) (fun a k q1 q2 q3 q4 => h1' a k q1 q2 q3 (by omega)), lyZ.eq Q (b + 1) (p + lenB g) h.2 (fun a k q1 q2 q3 q4 => h0 a k q1 q2 (by omega) (by omega)) (fun a k q1 q2 q3 q4 => h1' a k q1 q2 (by omega) (by omega))⟩
theorem lyB.bq {M : zM} {l b p : Nat} {g : Option (zEx × zEx) × zEx} (h : lyB M b p g) (h0 : 420 * l ≤ p) (h1 : p + lenB g ≤ 420 * l + 420) : zBq M l b g := by
  match g, h with
  | (none, e), ⟨a1, a2, a3, a4⟩ => exact ⟨a1, p, a2, a3, a4, h0, h1⟩
  | (some (u, v), e), ⟨a1, a2, a3, a4, a5, a6, a7, a8⟩ =>
    have l0 : lenB (some (u, v), e) = u.length + (v.length + e.length) := by
      unfold lenB inB
      rw [List.length_append, List.length_append]
    rw [l0] at h1
    exact ⟨a1, p, a2, a3, a4, a5, a6, a7, a8, h0, by omega⟩
theorem lyZ.bz {M : zM} {l : Nat} : ∀ (Q : zPr) (b p : Nat), lyZ M b p Q → 420 * l ≤ p → p + lenP Q ≤ 420 * l + 420 → zBz M l b Q
  | [], _, _, _, _, _ => trivial
  | g :: Q, b, p, h, h0, h1 => by
    have h1' : p + (lenB g + lenP Q) ≤ 420 * l + 420 := h1
    exact ⟨h.1.bq h0 (by omega), lyZ.bz Q (b + 1) (p + lenB g) h.2 (by omega) (by omega)⟩
def lwA (f0 p0 l : Nat) : Nat → Nat → Prop := fun a k => exA p0 (420 * l) a k ∨ (260 ≤ a ∧ a ≤ 264 ∧ f0 ≤ k ∧ k < 130 * l + 130) ∨ (a = 242 ∧ k = 31)
def lxA (f0 p0 l k0 : Nat) : Nat → Nat → Prop := fun a k => lwA f0 p0 l a k ∨ ((a = 258 ∨ a = 259) ∧ k = 2 * l + k0)
theorem brA_lw {M M1 : zM} {p p0 f0 l b : Nat} (h : zag (brA p (420 * l) b) M M1) (hp : p0 ≤ p) (hb : f0 ≤ b) (hb2 : b < 130 * l + 130) : zag (lwA f0 p0 l) M M1 := h.mo (fun a k q => by unfold brA exA at q; unfold lwA exA; omega)
def rlS (f0 p0 l c : Nat) (M : zM) (t : Nat) (Q : zPr) (M1 : zM) : Prop := AR t M1 ∧ t ≤ c ∧ M1 242 12 = 0 ∧ M1 242 31 = nI (f0 + Q.length) ∧ M1 242 37 = nI (p0 + lenP Q) ∧ p0 + lenP Q ≤ 420 * l + t ∧ 4 * (f0 + Q.length) + 2 ≤ 520 * l + t ∧ lyZ M1 f0 p0 Q ∧ zag (lwA f0 p0 l) M M1
def rlD (P : Nat → Int32) (f0 p0 l : Nat) (M : zM) (f : tF) (M1 : zM) : Prop := FR P f M1 ∧ zag (lwA f0 p0 l) M M1 ∧ ∃ b, M1 242 31 = nI b ∧ f0 ≤ b ∧ b ≤ 130 * l + 104
def rlR (P : Nat → Int32) (f0 p0 l k0 c : Nat) (M : zM) (res : tF ⊕ (Nat × zPr)) (M1 : zM) : Prop := zag (lxA f0 p0 l k0) M M1 ∧ ((∃ f, res = .inl f ∧ FR P f M1) ∨ (∃ r, res = .inr r ∧ AR r.1 M1 ∧ r.1 ≤ c ∧ M1 242 12 = 0 ∧ M1 242 31 = nI (f0 + r.2.length) ∧ M1 242 37 = nI (p0 + lenP r.2) ∧ p0 + lenP r.2 ≤ 420 * l + r.1 ∧ 4 * (f0 + r.2.length) ≤ 520 * l + r.1 ∧ lyZ M1 f0 p0 r.2 ∧ M1 258 (2 * l + k0) = nI f0 ∧ M1 259 (2 * l + k0) = nI (f0 + r.2.length)))
def rlQ (R : zR) (P : Nat → Int32) (f0 p0 l k0 c : Nat) (M : zM) (res : tF ⊕ (Nat × zPr)) : zM ⊕ zM → Prop := fun e32 => zT (Sum.elim (fun e33 => some e33) (fun e34 => zck (zin (e34 242 31) 260) <| zlt (zup e34 (R 242 32) (ztn (e34 242 31)) (0 : Int32)) fun M36 => zbd (f_X12_term R M36 242) fun M37 => zbd (f_X12_must R M37 242 (4 : Int32)) fun M39 => if (M39 242 13) ≤ 0 then (zck (zin (((2 : Int32) * (M39 242 19)) + nI k0) 4) <| zlt (zup M39 (R 242 29) (ztn (((2 : Int32) * (M39 242 19)) + nI k0)) (nI f0)) fun M43 => zck (zin (((2 : Int32) * (M43 242 19)) + nI k0) 4) <| zlt (zup M43 (R 242 30) (ztn (((2 : Int32) * (M43 242 19)) + nI k0)) (M43 242 31)) fun M45 => some M45) else some M39) e32) (rlR P f0 p0 l k0 c M res)
def rlI (K V P : Nat → Int32) (f0 p0 l c : Nat) (M : zM) (res : tF ⊕ (Nat × zPr)) (m : Nat) (v : Int32 × zM) : Prop := (∃ (i t : Nat) (Q : zPr), m = 6 - i ∧ i ≤ 4 ∧ v.1 = nI i ∧ rlS f0 p0 l c M t Q v.2 ∧ ifsS K V (5 - i) t Q = res) ∨ (m = 0 ∧ ∃ f, rlD P f0 p0 l M f v.2 ∧ res = .inl f)
theorem nI_2l {l k : Nat} (hl : l < 2) (hk : k < 2) : (2 : Int32) * nI l + nI k = nI (2 * l + k) := by
  rcases (show l = 0 ∨ l = 1 by omega) with rfl | rfl <;> rcases (show k = 0 ∨ k = 1 by omega) with rfl | rfl <;> decide
theorem braS_t {K V : Nat → Int32} {c t : Nat} {r : Nat × (Option (zEx × zEx) × zEx)} (hV : valS K V c) (hK : endS K c) (ht : t ≤ c) (h0 : K t = 30) (h : braS K V t = .inr r) : t + 7 ≤ r.1 := by
  unfold braS at h
  obtain ⟨t1, h1, h⟩ := sB_i h
  obtain ⟨r2, h2, h⟩ := sB_i h
  obtain ⟨t3, h3, h⟩ := sB_i h
  obtain ⟨r4, h4, h⟩ := sB_i h
  obtain ⟨t5, h5, h⟩ := sB_i h
  obtain ⟨r6, h6, h⟩ := sB_i h
  obtain ⟨t7, h7, h⟩ := sB_i h
  obtain ⟨a1, b1⟩ := goS_ok hK ht (by rw [h0]; decide) h1
  obtain ⟨a2, b2, c2, d2⟩ := exS_ok hV hK b1 h2
  obtain ⟨a3, b3, _⟩ := mustS_ok (by decide) hK c2 h3
  obtain ⟨a4, b4, c4, d4⟩ := exS_ok hV hK b3 h4
  obtain ⟨a5, b5, _⟩ := mustS_ok (by decide) hK c4 h5
  obtain ⟨a6, b6, c6, d6⟩ := exS_ok hV hK b5 h6
  obtain ⟨a7, b7, _⟩ := mustS_ok (by decide) hK c6 h7
  cases h
  dsimp only
  omega
section REF
variable {R : zR} {M M1 : zM} {K V P : Nat → Int32} {c t p0 f0 l k0 : Nat} {f : tF} {res : tF ⊕ (Nat × zPr)}
theorem lwA_lx (h : zag (lwA f0 p0 l) M M1) : zag (lxA f0 p0 l k0) M M1 := h.mo (fun a k q => Or.inl q)
theorem rlD.q (hR : zMd R) (hl : l < 2) (h : rlD P f0 p0 l M f M1) : rlQ R P f0 p0 l k0 c M (.inl f) (.inr M1) := by
  obtain ⟨h1, h2, b, h31, hb0, hb⟩ := h
  show zT (zck _ _) _
  rw [h31, hR.at (k := 32) (b := 260) rfl (by decide), ztn_nI (by omega)]
  refine zT_ck (zin_nI (by omega) (by omega)) (zT_lt (zT_bd (zT_w (X12_termD hR (P := P) (f := f) (b := b) (h1.eq (zup_a (by omega)) (zup_a (by omega))) (by rw [zup_a (by omega)]; exact h31) (by omega)) ?_)))
  rintro M2 ⟨a1, a2, g⟩
  refine zT_bd (zT_eq (X12_mustD a1 4) (zT_if0 a1.ne.2.1 (zT_some ⟨lwA_lx ((h2.up (by unfold lwA; omega)).tr (g.mo (fun a k q => by unfold lwA; omega))), Or.inl ⟨f, rfl, a1⟩⟩)))
/-- a law's lines, behind its word -/
theorem X12_law (hR : zMd R) (hk : tkR M K V P c) (hK : endS K c) (hV : valS K V c) (hl : l < 2) (hk0 : k0 < 2) (hal : AR t M) (ht : t ≤ c) (h12 : M 242 12 = 0) (h37 : M 242 37 = nI p0) (h31 : M 242 31 = nI f0) (h19 : M 242 19 = nI l) (hp : p0 ≤ 420 * l + t) (hf : 4 * f0 + 1 ≤ 520 * l + t) (hf0 : 130 * l ≤ f0) : zT (f_X12_tellLaw R M 242 (nI k0)) (rlR P f0 p0 l k0 c M (sB (mustS K 5 t) fun t2 => ifsS K V 5 t2 [])) := by
  have c4 := hk.1
  obtain ⟨res, hr⟩ : ∃ res, (sB (mustS K 5 t) fun t2 => ifsS K V 5 t2 []) = res := ⟨_, rfl⟩
  rw [hr]
  unfold f_X12_tellLaw
  refine zT_bd (zT_w (X12_must hR hk hal ht 5) ?_)
  rintro M1 ⟨hm, g1⟩
  have i31 : M1 242 31 = nI f0 := by rw [g1 242 31 (by unfold tgA; omega)]; exact h31
  have g01 : zag (lwA f0 p0 l) M M1 := g1.mo (fun a k q => by unfold tgA at q; unfold lwA exA; omega)
  rw [i31]
  have start : ∃ m, m < 1000000 ∧ rlI K V P f0 p0 l c M res m (0, M1) := by
    cases e1 : mustS K 5 t with
    | inl f =>
      rw [e1] at hm
      rw [sB_l e1] at hr
      exact ⟨0, by omega, Or.inr ⟨rfl, f, ⟨hm, g01, f0, i31, Nat.le_refl _, by omega⟩, hr.symm⟩⟩
    | inr t2 =>
      rw [e1] at hm
      rw [sB_r e1] at hr
      obtain ⟨l1, b1, _⟩ := mustS_ok (by decide) hK ht e1
      refine ⟨6, by omega, Or.inl ⟨0, t2, [], rfl, by omega, rfl, ⟨hm, b1, ?_, i31, ?_, ?_, ?_, trivial, g01⟩, hr⟩⟩
      · dsimp only; rw [g1 242 12 (by unfold tgA; omega)]; exact h12
      · dsimp only; rw [g1 242 37 (by unfold tgA; omega)]; exact h37
      · show p0 + 0 ≤ _
        omega
      · show 4 * (f0 + 0) + 2 ≤ _
        omega
  obtain ⟨m0, hm0, st⟩ := start
  refine zT_bd (zT_loop (Q := rlQ R P f0 p0 l k0 c M res) (rlI K V P f0 p0 l c M res) m0 st hm0 ?_)
  clear st hm hr
  rintro m ⟨x3, M2⟩ (⟨i, t2, Q, rfl, hi, rfl, hS, hr⟩ | ⟨rfl, f, hD, hr⟩)
  case inr =>
    unfold b_X12_tellLaw_12
    rw [hr]
    exact zT_if0 hD.1.ne.1 (zT_some (hD.q hR hl))
  dsimp only at hS
  obtain ⟨s1, s2, s3, s4, s5, s6, s7, s8, s9⟩ := id hS
  have hk2 : tkR M2 K V P c := hk.eq (fun a i q1 q2 => s9 a i (by unfold lwA exA; omega))
  have e19 : M2 242 19 = nI l := by rw [s9 242 19 (by unfold lwA exA; omega)]; exact h19
  unfold b_X12_tellLaw_12
  refine zT_if1 s1.2 (zT_bd (zT_eq (X12_is hR hk2 s1 s2 30) ?_))
  by_cases c30 : K t2 = 30
  · rw [if_pos c30]
    refine zT_if0 (by decide) ?_
    by_cases i4 : i = 4
    · subst i4
      refine zT_if1 rfl (zT_bd (zT_w (X12_fail hR hk2 s1 s2 (k := 2) (Or.inr rfl)) ?_))
      rintro M3 ⟨f3, g3⟩
      unfold j_X12_tellLaw_38
      refine zT_if0 f3.ne.2.1 (zT_some (show rlQ R P f0 p0 l k0 c M res (.inl M3) from zT_some ⟨lwA_lx (s9.tr (g3.mo (fun a k q => by unfold lwA exA; omega))), Or.inl ⟨(2, t2), ?_, f3⟩⟩))
      rw [← hr]
      show (if K t2 = 30 then _ else _) = _
      rw [if_pos c30]
      rfl
    · refine zT_if0 (fun z => i4 (nI_inj (by omega) (by omega) (z.trans (nI_lit 4)))) ?_
      have hstep : ifsS K V (5 - i) t2 Q = sB (braS K V t2) fun r => ifsS K V (4 - i) r.1 (Q ++ [r.2]) := by
        rw [show 5 - i = (4 - i) + 1 by omega]
        show (if K t2 = 30 then _ else _) = _
        rw [if_pos c30, if_neg (by omega)]
      refine zT_w (X12_branch hR hk2 hK hV s1 s2 c30 s3 s5 (B := 420 * l) s6 (by omega) s4 (by omega) (nI k0) (nI f0) (nI i)) ?_
      rintro r ⟨M3, rfl, x31, g3, hh⟩
      have g03 : zag (lwA f0 p0 l) M M3 := s9.tr (brA_lw g3 (by omega) (by omega) (by omega))
      rcases hh with ⟨f, e, h3⟩ | ⟨r, e, a1, a2, a3, a4⟩
      · refine ⟨0, by omega, Or.inr ⟨rfl, f, ⟨h3, g03, _, x31, by omega, by omega⟩, ?_⟩⟩
        rw [← hr, hstep, sB_l e]
      · obtain ⟨u, v, e', q0, q1, q2, q3, q4⟩ := braS_ok hV hK s2 (by rw [c30]; decide) e
        have lB : lenB r.2 = u.length + (v.length + e'.length) := by
          rw [q0]
          unfold lenB inB
          rw [List.length_append, List.length_append]
        have lP : lenP (Q ++ [r.2]) = lenP Q + lenB r.2 := by rw [lenP_app, lenP_1]
        have lQ : (Q ++ [r.2]).length = Q.length + 1 := by rw [List.length_append, List.length_singleton]
        refine ⟨6 - (i + 1), by omega, Or.inl ⟨i + 1, r.1, Q ++ [r.2], rfl, by omega, nI_1 i, ⟨a1, q3, a2, ?_, ?_, ?_, ?_, ?_, g03⟩, ?_⟩⟩
        · dsimp only; rw [lQ, ← Nat.add_assoc]; exact x31
        · dsimp only; rw [lP, ← Nat.add_assoc]; exact a3
        · rw [lP, lB]; omega
        · rw [lQ]
          have := braS_t hV hK s2 c30 e
          omega
        · refine lyZ.app _ _ _ _ (lyZ.eq _ _ _ s8 (fun a k q1 q2 q3 q4 => g3 a k (by unfold brA exA; omega)) (fun a k q1 q2 q3 q4 => g3 a k (by unfold brA exA; omega))) ⟨a4, trivial⟩
        · rw [← hr, hstep, sB_r e, show 5 - (i + 1) = 4 - i by omega]
  · rw [if_neg c30]
    refine zT_if1 rfl (zT_some ?_)
    have hstep : ifsS K V (5 - i) t2 Q = sB (exS K V t2) fun r => sB (mustS K 4 r.1) fun t2 => .inr (t2, Q ++ [(none, r.2)]) := by
      rw [show 5 - i = (4 - i) + 1 by omega]
      show (if K t2 = 30 then _ else _) = _
      rw [if_neg c30]
    rw [hr] at hstep
    show zT (zck _ _) _
    dsimp only
    rw [s4, hR.at (k := 32) (b := 260) rfl (by decide), ztn_nI (by omega)]
    refine zT_ck (zin_nI (by omega) (by omega)) (zT_lt ?_)
    have g3 : zag (lwA f0 p0 l) M (zup M2 260 (f0 + Q.length) 0) := s9.up (by unfold lwA; omega)
    have v0 : zup M2 260 (f0 + Q.length) 0 260 (f0 + Q.length) = 0 := zup_same
    have vO : ∀ a k, ¬ (a = 260 ∧ k = f0 + Q.length) → zup M2 260 (f0 + Q.length) 0 a k = M2 a k := fun a k h => by
      by_cases e : a = 260
      · subst e
        rw [zup_k (by omega)]
      · rw [zup_a e]
    generalize zup M2 260 (f0 + Q.length) 0 = M3 at g3 v0 vO ⊢
    have hk3 : tkR M3 K V P c := hk2.eq (fun a i q1 q2 => vO a i (by omega))
    refine zT_bd (zT_w (X12_term hR hk3 hK (t := t2) ⟨by rw [vO _ _ (by omega)]; exact s1.1, by rw [vO _ _ (by omega)]; exact s1.2⟩ s2 (by rw [vO _ _ (by omega)]; exact s3) (by rw [vO _ _ (by omega)]; exact s5) (B := 420 * l) s6 (by omega) (by rw [vO _ _ (by omega)]; exact s4) (by omega)) ?_)
    rintro M4 ⟨x31, g4, hh⟩
    have g04 : zag (lwA f0 p0 l) M M4 := g3.tr (brA_lw (teA_br g4 (Nat.le_refl _)) (by omega) (by omega) (by omega))
    have hk4 : tkR M4 K V P c := hk.eq (fun a i q1 q2 => g04 a i (by unfold lwA exA; omega))
    rcases hh with ⟨f, e, h4⟩ | ⟨r, e, a1, a2, a3, a4, a5, a6⟩
    · exact zT_bd (zT_eq (X12_mustD h4 4) (zT_if0 h4.ne.2.1 (zT_some ⟨lwA_lx g04, Or.inl ⟨f, hstep.trans (sB_l e), h4⟩⟩)))
    obtain ⟨q0, q1, q2, q3⟩ := exS_ok hV hK s2 e
    refine zT_bd (zT_w (X12_must hR hk4 a1 q2 4) ?_)
    rintro M5 ⟨hm5, g5⟩
    have g05 : zag (lwA f0 p0 l) M M5 := g04.tr (g5.mo (fun a k q => by unfold tgA at q; unfold lwA exA; omega))
    cases e2 : mustS K 4 r.1 with
    | inl f =>
      rw [e2] at hm5
      exact zT_if0 hm5.ne.2.1 (zT_some ⟨lwA_lx g05, Or.inl ⟨f, hstep.trans ((sB_r e).trans (sB_l e2)), hm5⟩⟩)
    | inr t6 =>
    rw [e2] at hm5
    obtain ⟨l6, b6, _⟩ := mustS_ok (by decide) hK q2 e2
    have f19 : M5 242 19 = nI l := by rw [g05 242 19 (by unfold lwA exA; omega)]; exact h19
    have f31 : M5 242 31 = nI (f0 + Q.length + 1) := by rw [g5 242 31 (by unfold tgA; omega)]; exact x31
    rw [f19, nI_2l hl hk0, hR.at (k := 29) (b := 258) rfl (by decide), hR.at (k := 30) (b := 259) rfl (by decide), ztn_nI (by omega)]
    refine zT_if1 (by rw [hm5.2]; decide) (zT_ck (zin_nI (by omega) (by omega)) (zT_lt ?_))
    have y19 : zup M5 258 (2 * l + k0) (nI f0) 242 19 = nI l := by rw [zup_a (by omega)]; exact f19
    have y31 : zup M5 258 (2 * l + k0) (nI f0) 242 31 = nI (f0 + Q.length + 1) := by rw [zup_a (by omega)]; exact f31
    rw [y19, y31, nI_2l hl hk0, ztn_nI (by omega)]
    have g06 : zag (lxA f0 p0 l k0) M (zup (zup M5 258 (2 * l + k0) (nI f0)) 259 (2 * l + k0) (nI (f0 + Q.length + 1))) := ((lwA_lx g05).up (by unfold lxA; omega)).up (by unfold lxA; omega)
    have w8 : zup (zup M5 258 (2 * l + k0) (nI f0)) 259 (2 * l + k0) (nI (f0 + Q.length + 1)) 258 (2 * l + k0) = nI f0 := by rw [zup_a (by omega), zup_same]
    have w9 : zup (zup M5 258 (2 * l + k0) (nI f0)) 259 (2 * l + k0) (nI (f0 + Q.length + 1)) 259 (2 * l + k0) = nI (f0 + Q.length + 1) := zup_same
    have wO : ∀ a k, a ≠ 258 → a ≠ 259 → zup (zup M5 258 (2 * l + k0) (nI f0)) 259 (2 * l + k0) (nI (f0 + Q.length + 1)) a k = M5 a k := fun a k h1 h2 => by rw [zup_a h2, zup_a h1]
    refine zT_ck (zin_nI (by omega) (by omega)) (zT_lt (zT_some ?_))
    generalize zup (zup M5 258 (2 * l + k0) (nI f0)) 259 (2 * l + k0) (nI (f0 + Q.length + 1)) = M6 at g06 w8 w9 wO ⊢
    have lB : lenB (none, r.2) = r.2.length := rfl
    have lP : lenP (Q ++ [(none, r.2)]) = lenP Q + r.2.length := by rw [lenP_app, lenP_1, lB]
    have lQ : (Q ++ [(none, r.2)]).length = Q.length + 1 := by rw [List.length_append, List.length_singleton]
    have c5 : ∀ a k, a ≠ 242 → M5 a k = M4 a k := fun a k h => g5 a k (by unfold tgA; omega)
    have lz : lyZ M6 f0 p0 (Q ++ [(none, r.2)]) := by
      refine lyZ.app _ _ _ _ (lyZ.eq _ _ _ s8 (fun a k q1 q2 q3 q4 => ?_) (fun a k q1 q2 q3 q4 => ?_)) ⟨⟨?_, ?_, ?_, ?_⟩, trivial⟩
      · rw [wO _ _ (by omega) (by omega), c5 _ _ (by omega), g4 a k (by unfold teA exA; omega), vO _ _ (by omega)]
      · rw [wO _ _ (by omega) (by omega), c5 _ _ (by omega), g4 a k (by unfold teA exA; omega), vO _ _ (by omega)]
      · rw [wO _ _ (by omega) (by omega), c5 _ _ (by omega), g4 260 _ (by unfold teA exA; omega)]; exact v0
      · rw [wO _ _ (by omega) (by omega), c5 _ _ (by omega)]; exact a5
      · rw [wO _ _ (by omega) (by omega), c5 _ _ (by omega)]; exact a6
      · exact zCd.eq (fun k => by rw [wO _ _ (by omega) (by omega), c5 _ _ (by omega)]) (fun k => by rw [wO _ _ (by omega) (by omega), c5 _ _ (by omega)]) _ _ a4
    refine ⟨g06, Or.inr ⟨(t6, Q ++ [(none, r.2)]), hstep.trans ((sB_r e).trans (sB_r e2)), ⟨?_, ?_⟩, b6, ?_, ?_, ?_, ?_, ?_, lz, w8, ?_⟩⟩
    · rw [wO _ _ (by omega) (by omega)]; exact hm5.1
    · rw [wO _ _ (by omega) (by omega)]; exact hm5.2
    · rw [wO _ _ (by omega) (by omega), g5 242 12 (by unfold tgA; omega)]; exact a2
    · rw [wO _ _ (by omega) (by omega), lQ, ← Nat.add_assoc]; exact f31
    · rw [wO _ _ (by omega) (by omega), g5 242 37 (by unfold tgA; omega), lP, ← Nat.add_assoc]; exact a3
    · rw [lP]; dsimp only; omega
    · rw [lQ]; dsimp only; omega
    · rw [lQ, ← Nat.add_assoc]; exact w9
end REF

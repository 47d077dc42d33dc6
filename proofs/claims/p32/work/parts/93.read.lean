/-! READ, both sides each by itself; THE START -/
theorem zmxL_self {A : Nat → Bool} {M : zL} : zmxL A M M = M := by
  funext a
  unfold zmxL
  by_cases h : A a = true
  · rw [if_pos h]
  · rw [if_neg h]
theorem lr_read {R : zR} (hR : zMd R) (M N : zM) (L N' : zL) : f_X12_read R (zmx kAr M N) (zmxL kAr L N') 242 = Option.map (fun p => (p.1, zmx kAr p.2.1 N, zmxL kAr p.2.2 N')) (f_X12_read R M L 242) := lc_f_X12_read (by decide) (kAr_f hR (by decide)) (kAr_f hR (by decide)) (kAr_f hR (by decide)) (kAr_f hR (by decide)) (kAr_f hR (by decide)) (kAr_f hR (by decide)) (kAr_f hR (by decide)) (kAr_f hR (by decide)) (kAr_f hR (by decide)) (kAr_f hR (by decide)) (kAr_f hR (by decide)) (kAr_f hR (by decide)) (kAr_f hR (by decide)) (kAr_f hR (by decide)) (kAr_f hR (by decide)) (kAr_f hR (by decide)) (kAr_f hR (by decide)) (kAr_f hR (by decide)) (kAr_f hR (by decide)) (kAr_f hR (by decide)) (kAr_f hR (by decide)) (kAr_f hR (by decide)) (kAr_f hR (by decide)) (kAr_f hR (by decide)) (kAr_f hR (by decide)) (kAr_f hR (by decide)) (kAr_f hR (by decide))
section RD
variable {R : zR} {M : zM} {L : zL} {T S : Nat}
theorem c_read (h : zNv R M T S) (hL : zLk L) : zT (n_X11_read R M L 2) (fun p => (p.2.1 = R ∨ ∃ q, (q = 218 ∨ q = 230) ∧ p.2.1 = zupR (zupR R 2 8 (448 - q)) 2 9 q) ∧ ((∀ k, p.2.2.1 21 k = M 21 k) ∨ ∀ j, j < 3 → p.2.2.1 21 j = 0) ∧ zT (f_X12_read p.2.1 p.2.2.1 p.2.2.2 242) (fun p1 => p1.1 = p.1 ∧ zNv p.2.1 p1.2.1 (T + 3000000) (S + 300) ∧ zLk p1.2.2 ∧ (∀ a, a < 242 → p1.2.1 a = p.2.2.1 a) ∧ ((∀ s, s < 3 → M 21 s = M 281 s) → ∀ s, s < 3 → p1.2.1 21 s = p1.2.1 281 s))) := by
  obtain ⟨hrc, ⟨q, ru, C⟩, hn, Mg, ⟨ru1, q2, l, n, u, x, ho⟩, ge⟩ := id h
  have hqq : q2 = q := ho.q8.symm.trans C.q8
  subst hqq
  obtain ⟨t, t1, t2, t3, t4⟩ := ho.tp
  have hq := C.qq
  obtain ⟨q1, hq1⟩ : ∃ q1, q2 = 218 ∧ q1 = 230 ∨ q2 = 230 ∧ q1 = 218 := ⟨448 - q2, by omega⟩
  have x9 : R 2 9 = q1 := by
    have := ho.2.2.1
    omega
  have hB : ∀ i, (fun j => zbyte (Mg 243 j)) i < 256 := fun i => zbyte_lt _
  have hb : ∀ j, j < t → (fun j => zbyte (Mg 243 j)) j = zbyte (Mg 4 j) := fun j hj => by
    show zbyte (Mg 243 j) = _
    rw [t4 j hj]
  have hb2 : ∀ j, j < t → (fun j => zbyte (Mg 243 j)) j = zbyte (M 4 j) := fun j hj => by
    rw [ge.2.1]
    exact hb j hj
  have hr := readC_n C x9 hn hL.1 hq1 hB hb2 t1 (ge.2.2.1.trans t2)
  have hg := X11_readC ho hL.1 hq1 hB hb t1 t2
  generalize texS (kN (fun j => zbyte (Mg 243 j)) t) (vN (fun j => zbyte (Mg 243 j)) t) (eN (fun j => zbyte (Mg 243 j)) t) 401 0 ([], ru0, none) = res at hr hg
  generalize kN (fun j => zbyte (Mg 243 j)) t = K at hr hg
  generalize vN (fun j => zbyte (Mg 243 j)) t = V at hr hg
  generalize pN (fun j => zbyte (Mg 243 j)) t = P at hr hg
  generalize cN (fun j => zbyte (Mg 243 j)) t = c at hr hg
  obtain ⟨⟨w, Rg, P1, Lg⟩, ew, hres, g31, ggl⟩ := hg
  obtain ⟨p, ep, hR, hrest⟩ := zReadO ho hL
  rw [ew] at ep
  cases ep
  dsimp only at hres g31 ggl hR hrest
  obtain ⟨⟨w2, P2, Lg2⟩, ew2, hw2, ho2, hk2⟩ := hrest
  dsimp only at hw2 ho2 hk2
  refine zT_w hr ?_
  rintro ⟨v, R1, M1, L1⟩ ⟨hc, m31, fr, cn, gl⟩
  dsimp only at hc m31 fr cn gl ⊢
  have gM : (∀ a, 242 ≤ a → P1 a = Mg a) ∧ P1 4 = Mg 4 := by
    rcases hres with ⟨_, _, g⟩ | ⟨_, _, _, _, _, _, _, _, _, _, _, _, _, g⟩
    · exact ⟨fun b hb => funext fun k => g b k (by unfold rfA paA; omega), funext fun k => g 4 k (by unfold rfA paA; omega)⟩
    · exact ⟨fun b hb => funext fun k => g b k (by unfold rcA rfA paA; omega), funext fun k => g 4 k (by unfold rcA rfA paA; omega)⟩
  have key : v = w ∧ R1 = Rg ∧ M1 2 10 = P1 2 10 ∧ (∃ q ru, kC R1 M1 q ru) ∧ ((∀ k, M1 21 k = M 21 k) ∨ ∀ j, j < 3 → M1 21 j = 0) ∧ (R1 = R ∨ R1 = zupR (zupR R 2 8 q1) 2 9 q2) ∧ ((∀ k, M1 21 k = M 21 k) ∧ (∀ k, P1 21 k = Mg 21 k) ∨ (∀ j, j < 3 → M1 21 j = 0) ∧ ∀ j, j < 3 → P1 21 j = 0) := by
    rcases hc with ⟨hR1, hf, hC1, g⟩ | ⟨tt, ns, ru2, e1, hx, e2, e3, e4, e5, e6⟩
    · have f21 : ∀ k, M1 21 k = M 21 k := fun k => g 21 k (by unfold rfA paA; omega)
      rcases hres with ⟨hRg, hf2, gG⟩ | ⟨tt2, ns2, ru3, d1, -⟩
      · have hh : v = w ∧ M1 2 10 = P1 2 10 := by
          rcases hf with ⟨f, r1, r2, r3⟩ | ⟨_, _, _, f, r1, r2, r3⟩ <;> rcases hf2 with ⟨f2, w1, w2, w3⟩ | ⟨_, _, _, f2, w1, w2, w3⟩
          · rw [r1] at w1
            injection w1 with w1
            subst w1
            exact ⟨r2.trans w2.symm, r3.trans w3.symm⟩
          · rw [r1] at w1
            cases w1
          · rw [r1] at w1
            cases w1
          · rw [r1] at w1
            have w4 : f = f2 := by
              injection w1 with w1
              injection w1 with _ w1
              injection w1 with _ w1
              injection w1 with _ w1
              injection w1
            subst w4
            exact ⟨r2.trans w2.symm, r3.trans w3.symm⟩
        exact ⟨hh.1, hR1.trans hRg.symm, hh.2, ⟨_, _, by rw [hR1]; exact hC1⟩, Or.inl f21, Or.inl hR1, Or.inl ⟨f21, fun k => gG 21 k (by unfold rfA paA; omega)⟩⟩
      · rcases hf with ⟨f, r1, -⟩ | ⟨_, _, _, f, r1, -⟩ <;> rw [r1] at d1 <;> cases d1
    · rcases hres with ⟨hRg, hf2, _⟩ | ⟨tt2, ns2, ru3, d1, d2, d3, d4, d5, d6, d7, d8, d9, -⟩
      · rcases hf2 with ⟨f, r1, -⟩ | ⟨_, _, _, f, r1, -⟩ <;> rw [e1] at r1 <;> cases r1
      · exact ⟨e2.trans d3.symm, e3.trans d4.symm, e4.trans d5.symm, ⟨_, _, e5⟩, Or.inr e6, Or.inr e3, Or.inr ⟨e6, d9⟩⟩
  obtain ⟨rfl, rfl, k10, ⟨q3, ru3, C3⟩, k21, kR, kF⟩ := key
  have hmd : zMd R1 := by
    obtain ⟨_, _, _, _, _, _, hz⟩ := ho2
    exact hz.md
  have eM : zmx kAr P1 M1 = M1 := funext fun a => by
    unfold zmx
    by_cases h : kAr a = true
    · have ha : 242 ≤ a := of_decide_eq_true h
      rw [if_pos h, gM.1 a ha, ← ge.1 a ha]
      exact (funext fun k => fr a k (Or.inr ha)).symm
    · rw [if_neg h]
  have eL : zmxL kAr Lg L1 = L1 := funext fun a => by
    unfold zmxL
    by_cases h : kAr a = true
    · have ha : 242 ≤ a := of_decide_eq_true h
      rw [if_pos h, gl a (by omega) (by omega) (Or.inr ha)]
      exact funext fun j => ggl a j (by omega) (by omega)
    · rw [if_neg h]
  have e1 : f_X12_read R1 M1 L1 242 = some (w2, zmx kAr P2 M1, zmxL kAr Lg2 L1) := by
    have h := lr_read hmd P1 M1 Lg L1
    rw [eM, eL, ew2] at h
    exact h
  have lo : ∀ a, a < 242 → zmx kAr P2 M1 a = M1 a := fun a ha => zmx_no (fun z => absurd (of_decide_eq_true z) (by omega))
  have lP : ∀ a, a < 242 → P2 a = P1 a := fun a ha => by
    have h := lr_read hmd P1 P1 Lg Lg
    rw [zmx_self, zmxL_self, ew2, Option.map_some] at h
    injection h with h
    have h2 : P2 = zmx kAr P2 P1 := congrArg (fun p => p.2.1) h
    rw [h2]
    exact zmx_no (fun z => absurd (of_decide_eq_true z) (by omega))
  refine ⟨?_, k21, zT_eq e1 ⟨hw2, ⟨?_, ⟨q3, ru3, C3.eqC lo⟩, kCt.eqN cn lo, P2, ho2, fun a ha => if_pos (decide_eq_true ha), ?_, ?_, ?_⟩, ⟨?_, ?_⟩, lo, fun hfl s hs => ?_⟩⟩
  · rcases kR with e | e
    · exact Or.inl e
    · exact Or.inr ⟨q2, hq, by rw [e, show q1 = 448 - q2 by omega]⟩
  · rcases kR with e | e
    · rw [e]
      exact hrc
    · rw [e]
      exact kRc_sw hrc
  · show zmx kAr P2 M1 4 = P2 4
    rw [lo 4 (by omega), lP 4 (by omega), gM.2, ← ge.2.1]
    exact funext fun k => fr 4 k (Or.inl rfl)
  · show zmx kAr P2 M1 3 1 = P2 3 1
    rw [lo 3 (by omega), lP 3 (by omega), m31, g31]
  · show zmx kAr P2 M1 2 10 = P2 2 10
    rw [lo 2 (by omega), lP 2 (by omega)]
    exact k10
  · intro k hk
    have e : zmxL kAr Lg2 L1 10 = L1 10 := if_neg (by decide)
    show zmxL kAr Lg2 L1 10 k = _
    rw [e, gl 10 (by omega) (by omega) (by omega)]
    exact hL.1 k hk
  · intro k hk
    have e : zmxL kAr Lg2 L1 249 = Lg2 249 := if_pos (by decide)
    show zmxL kAr Lg2 L1 249 k = _
    rw [e]
    exact hk2.2 k hk
  · show zmx kAr P2 M1 21 s = zmx kAr P2 M1 281 s
    rw [lo 21 (by omega), show zmx kAr P2 M1 281 = P2 281 from if_pos (by decide)]
    have sl2 : P2 21 s = P2 281 s := by
      obtain ⟨_, _, _, _, _, _, hz⟩ := ho2
      rcases hz.sl s hs with ⟨a, b⟩ | ⟨a, b, _⟩ <;> rw [a, b]
    have sl1 : Mg 21 s = Mg 281 s := by rcases ho.sl s hs with ⟨a, b⟩ | ⟨a, b, _⟩ <;> rw [a, b]
    rw [← sl2, lP 21 (by omega)]
    have hm : M 21 s = Mg 21 s := by rw [hfl s hs, ge.1 281 (by omega), sl1]
    rcases kF with ⟨a, b⟩ | ⟨a, b⟩
    · rw [a, b, hm]
    · rw [a s hs, b s hs]
end RD
theorem zRl_rc : ∀ l : zAs, l.all (fun q => !kAc q.1 || kAc q.2.2) = true → kRc (zRl l)
  | [], _ => fun _ _ _ => by show kAc 0 = true; decide
  | (a, k, v) :: l, h => fun c i hc => by
    rw [List.all_cons, Bool.and_eq_true] at h
    show kAc (zupR (zRl l) a k v c i) = true
    unfold zupR
    by_cases e : c = a
    · subst e
      rw [if_pos rfl]
      by_cases e2 : i = k
      · rw [if_pos e2]
        have h1 := h.1
        rw [Bool.or_eq_true] at h1
        rcases h1 with z | z
        · rw [hc] at z
          exact absurd z (by decide)
        · exact z
      · rw [if_neg e2]
        exact zRl_rc l h.2 c i hc
    · rw [if_neg e]
      exact zRl_rc l h.2 c i hc
theorem LF_rc : kRc (zRl LF) := zRl_rc LF (by decide +kernel)
theorem zNv0 {M1 M : zM} (hc : clR 218 ru0 none M1) (h10 : M1 2 10 = -1) (h4 : M1 13 4 = 0) (h5 : M1 13 5 = 0) (h6 : M1 13 6 = 0) (h7 : M1 13 7 = 0) (g1 : zag (fun b k => (218 ≤ b ∧ b < 242) ∨ (b = 2 ∧ k = 10) ∨ (b = 13 ∧ 4 ≤ k)) (fun _ _ => 0) M1) (e : M = zup (zup M1 242 17 (-1)) 256 0 7) : zNv (zRl LF) M 0 0 ∧ (∀ j, M 21 j = 0) ∧ ∀ j, M 281 j = 0 := by
  have hz := zSt0 hc h10 h4 h5 h6 h7 g1 e
  have f : ∀ b k, ¬ (b = 242 ∧ k = 17) → ¬ (b = 256 ∧ k = 0) → M b k = M1 b k := fun b k a1 a2 => by rw [e, zup_o a2, zup_o a1]
  refine ⟨⟨LF_rc, ?_, fun r hr => ⟨0, by omega, ?_⟩, M, hz, fun _ _ => rfl, rfl, rfl, rfl⟩, fun j => ?_, fun j => ?_⟩
  · obtain ⟨ru, q, l, n, u, x, ho⟩ := hz
    exact ⟨q, ru, ho.rs, ho.q8, ho.qq, ho.ok, ho.cr⟩
  · have hl := hr.lt
    rw [f r 4 (by omega) (by omega)]
    by_cases c : r = 13
    · subst c
      exact h4
    · exact g1 r 4 (by omega)
  · rw [f 21 j (by omega) (by omega)]
    exact g1 21 j (by omega)
  · rw [f 281 j (by omega) (by omega)]
    exact g1 281 j (by omega)

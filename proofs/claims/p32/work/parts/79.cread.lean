/-! READ, on the class's side: whole -/
theorem zup_o {M : zM} {a j b k : Nat} {v : Int32} (h : ¬ (b = a ∧ k = j)) : zup M a j v b k = M b k := by
  unfold zup
  by_cases e : b = a
  · rw [if_pos e, if_neg (fun z => h ⟨e, z⟩)]
  · rw [if_neg e]
theorem begF_at {f : Nat → Int32} : ∀ n, n ≤ 10 → (∀ p j, p < 4 → j < n → begF f n (10 * p + j) = if p = 0 then f j else 0) ∧ begF f n 40 = nI n ∧ ∀ k, 40 < k → begF f n k = 0
  | 0, _ => ⟨fun p j _ h => absurd h (by omega), rfl, fun _ _ => rfl⟩
  | n + 1, h => by
    obtain ⟨h1, h2, h3⟩ := begF_at (f := f) n (by omega)
    refine ⟨fun p j hp hj => ?_, ?_, fun k hk => ?_⟩
    · show buildF n n (f n) (begF f n) (10 * p + j) = _
      rw [buildF_at hp (by omega)]
      by_cases c : j < n
      · rw [if_pos c, h1 p j hp c]
      · obtain rfl : j = n := by omega
        rw [if_neg c, if_pos rfl]
    · show buildF n n (f n) (begF f n) 40 = _
      unfold buildF
      rw [if_pos rfl, h2]
      exact nI_1 n
    · show buildF n n (f n) (begF f n) k = _
      unfold buildF
      rw [if_neg (by omega), if_neg (by omega)]
      exact h3 k hk
def zLk (L : zL) : Prop := wdOkC L ∧ wdOkR L
/-- the cells that read() changes: where there is a fault, where there is none -/
def rfA (q : Nat) : Nat → Nat → Prop := fun b k => paA q b k ∨ (6 ≤ b ∧ b ≤ 10) ∨ (b = 3 ∧ k = 1) ∨ (b = 2 ∧ k = 10)
def rcA (q : Nat) : Nat → Nat → Prop := fun b k => rfA q b k ∨ (13 ≤ b ∧ b < 18) ∨ (b = 18 ∧ k = 4) ∨ b = 21 ∨ (b = 207 ∧ k = 6)
def rdC (R : zR) (M : zM) (L : zL) (q q1 : Nat) (K V P : Nat → Int32) (c : Nat) (res : tF ⊕ (Nat × zTx)) (p : Int32 × zR × zM × zL) : Prop :=
  ((p.2.1 = R ∧ ((∃ f, res = .inl f ∧ p.1 = nI f.1 ∧ p.2.2.1 2 10 = P f.2) ∨ (∃ t ns ru e, res = .inr (t, ns, ru, some e) ∧ p.1 = nI e.1 ∧ p.2.2.1 2 10 = P e.2)) ∧ zag (rfA q1) M p.2.2.1) ∨
   (∃ t ns ru, res = .inr (t, ns, ru, none) ∧ xOk K c (ns, ru, none) ∧ p.1 = 0 ∧ p.2.1 = zupR (zupR R 2 8 q1) 2 9 q ∧ p.2.2.1 2 10 = -1 ∧ clR q1 ru none p.2.2.1 ∧ (∃ f, (∀ j, j < ns.length → f j = V (ns.getD j 0 + 1)) ∧ RW p.2.2.1 13 ns.length (begF f ns.length)) ∧ p.2.2.1 18 4 = 0 ∧ (∀ j, j < 3 → p.2.2.1 21 j = 0) ∧ p.2.2.1 207 6 = 0 ∧ zag (rcA q1) M p.2.2.1)) ∧
  p.2.2.1 3 1 = 0 ∧ ∀ b j, b ≠ 9 → b ≠ 11 → p.2.2.2 b j = L b j
theorem gon_no {q1 b k : Nat} (hq1 : q1 = 230 ∨ q1 = 218) (b1 : q1 ≤ b) (b2 : b < q1 + 10) : ¬ (zblk 13 b k ∨ (b = 18 ∧ k = 4) ∨ b = 21 ∨ (b = 207 ∧ k = 6)) ∧ ¬ (b = 3 ∧ k = 1) ∧ ¬ (b = 2 ∧ k = 10) := by
  unfold zblk
  omega
section RD
variable {R : zR} {M : zM} {L : zL} {ru : zRu} {q l n T S u x : Nat}
theorem clR.cr {M1 : zM} {ru1 : zRu} (hR : zRq R q) (h : clR q ru1 none M1) : zCr R M1 q ru1 := by
  obtain ⟨c1, c2, c3, c4, ⟨a1, a2, a3, a4⟩, ⟨b1, b2, b3, b4⟩⟩ := h
  obtain ⟨r0, r1, r2, r3, r4, r5, r6, r7, r8, r9, r10⟩ := hR
  exact ⟨r0, r1, r3, r4, c1, c2, (c3 rfl).1, (c3 rfl).2, c4, ⟨r5, r6, r7, a1, a2, a3⟩, ⟨r8, r9, r10, b1, b2, b3⟩, a4, b4⟩
theorem X11_goOn (h : zSt R M ru q l n T S u x) {q1 n1 : Nat} (hq1 : q = 218 ∧ q1 = 230 ∨ q = 230 ∧ q1 = 218) (x9 : R 2 9 = q1) {M8 : zM} (h5 : M8 q1 5 = nI n1) (hn : n1 ≤ 10) : zT (f_X11_goOnFromSpare R M8 2) (fun p => p.1 = zupR (zupR R 2 8 q1) 2 9 q ∧ RW p.2 13 n1 (begF (M8 (q1 + 9)) n1) ∧ p.2 18 4 = 0 ∧ (∀ j, j < 3 → p.2 21 j = 0) ∧ p.2 207 6 = 0 ∧ zag (fun b k => zblk 13 b k ∨ (b = 18 ∧ k = 4) ∨ b = 21 ∨ (b = 207 ∧ k = 6)) M8 p.2) := by
  obtain ⟨x0, x1, x2, x3, x4, x5, x6, x7⟩ := id h.xr
  unfold f_X11_goOnFromSpare
  refine zT_lt (zT_lt ?_)
  rw [h.q8, x9]
  have ro : ∀ a k, ¬ (a = 2 ∧ (k = 8 ∨ k = 9)) → zupR (zupR R 2 8 q1) 2 9 q a k = R a k := by
    intro a k hh
    unfold zupR
    by_cases e : a = 2
    · rw [if_pos e, if_neg (by omega), if_pos e, if_neg (by omega)]
    · rw [if_neg e, if_neg e]
  have r8 : zupR (zupR R 2 8 q1) 2 9 q 2 8 = q1 := by simp [zupR]
  generalize zupR (zupR R 2 8 q1) 2 9 q = R2 at ro r8 ⊢
  have hz : zrg R2 13 := by
    obtain ⟨z0, z1, z2, z3⟩ := h.r13
    exact ⟨by rw [ro _ _ (by omega)]; exact z0, by rw [ro _ _ (by omega)]; exact z1, by rw [ro _ _ (by omega)]; exact z2, by rw [ro _ _ (by omega)]; exact z3⟩
  have hq2 : R2 q1 2 = q1 + 9 := by
    rw [ro _ _ (by omega)]
    rcases hq1 with ⟨_, rfl⟩ | ⟨_, rfl⟩
    · exact h.rs.2.2.2.2.2.1.2.2.1
    · exact h.rs.2.2.2.2.1.2.2.1
  rw [r8, ro 2 2 (by omega), ro 2 3 (by omega), ro 2 7 (by omega), x2, x3, x7]
  refine zT_bd (zT_w (X6_begin hz (by omega) hq2 h5 hn) ?_)
  rintro M3 ⟨w3, g3⟩
  refine zT_bd (zT_w (X2_clear (by rw [ro _ _ (by omega)]; exact h.kr.2.2.1)) ?_)
  rintro M5 ⟨a5, b5, g5⟩
  unfold f_X10_clear
  refine zT_bd (zT_lt (zT_some (zT_some ⟨rfl, ?_, ?_, fun j hj => ?_, ?_, ?_⟩)))
  · exact w3.cells (fun a k a1 a2 => by show zup M5 207 6 0 a k = M3 a k; rw [zup_o (by omega)]; exact g5 a k (by omega))
  · show zup M5 207 6 0 18 4 = 0
    rw [zup_o (by omega)]
    exact a5
  · show zup M5 207 6 0 21 j = 0
    rw [zup_o (by omega)]
    exact b5 j hj
  · show zup M5 207 6 0 207 6 = 0
    exact zup_same
  · exact ((g3.mo (fun b k e => Or.inl e)).tr (g5.mo (fun b k e => by omega))).up (by omega)
theorem X11_readC (h : zSt R M ru q l n T S u x) (hL : wdOkC L) {q1 : Nat} (hq1 : q = 218 ∧ q1 = 230 ∨ q = 230 ∧ q1 = 218) {B : Nat → Nat} {t : Nat} (hB : ∀ i, B i < 256) (hb : ∀ j, j < t → B j = zbyte (M 4 j)) (ht : t ≤ 2000) (h3 : M 3 1 = nI t) : zT (f_X11_read R M L 2) (rdC R M L q q1 (kN B t) (vN B t) (pN B t) (cN B t) (texS (kN B t) (vN B t) (eN B t) 401 0 ([], ru0, none))) := by
  obtain ⟨x0, x1, x2, x3, x4, x5, x6, x7⟩ := id h.xr
  have x9 : R 2 9 = q1 := by
    have := h.2.2.1
    omega
  have hq2 : q1 = 230 ∨ q1 = 218 := by omega
  have hRq : zRq R q1 := by
    rcases hq1 with ⟨_, rfl⟩ | ⟨_, rfl⟩
    · exact h.rs.2.2.2.2.2.1
    · exact h.rs.2.2.2.2.1
  have hp : zRp R := h.rs.2.2.2.2.2.2
  obtain ⟨p0, hp0, s1, s2, s3, s4, s5⟩ := X9_scan hp hL hB hb ht h3
  have hV : valS (kN B t) (vN B t) (cN B t) := fun i hi hk => (s5 i hi hk).1
  have hsc := X5_text hp (q := q1) (by omega) hRq kN_end hV ⟨p0, hp0, s1, s2, s3, s4⟩
  generalize texS (kN B t) (vN B t) (eN B t) 401 0 ([], ru0, none) = res at hsc ⊢
  unfold f_X11_read
  rw [x0, x1, x9]
  refine zT_bd3 (zT_w hsc ?_)
  rintro ⟨r, M2, L3⟩ ⟨hres, g, gl⟩
  dsimp only at hres g gl ⊢
  refine zT_lt ?_
  unfold f_X5_faultPlace
  refine zT_bd (zT_some (zT_lt ?_))
  have e57 : zup M2 3 1 0 5 7 = M2 5 7 := zup_o (by omega)
  rw [e57]
  have m10 : zup (zup M2 3 1 0) 2 10 (M2 5 7) 2 10 = M2 5 7 := zup_same
  have m31 : zup (zup M2 3 1 0) 2 10 (M2 5 7) 3 1 = 0 := by rw [zup_o (by omega), zup_same]
  have mo : ∀ b k, ¬ (b = 3 ∧ k = 1) → ¬ (b = 2 ∧ k = 10) → zup (zup M2 3 1 0) 2 10 (M2 5 7) b k = M2 b k := fun b k h1 h2 => by rw [zup_o h2, zup_o h1]
  have g8 : zag (rfA q1) M (zup (zup M2 3 1 0) 2 10 (M2 5 7)) := ((g.mo (fun b k e => by unfold rfA; rcases e with e | e; exact Or.inl e; exact Or.inr (Or.inl e))).up (by unfold rfA; omega)).up (by unfold rfA; omega)
  generalize zup (zup M2 3 1 0) 2 10 (M2 5 7) = M8 at m10 m31 mo g8 ⊢
  rcases hres with ⟨f, r1, r2, r3, r4⟩ | ⟨t1, ns, ru1, w, r1, r2, r3⟩
  · refine zT_if0 ?_ (zT_some ⟨Or.inl ⟨rfl, Or.inl ⟨f, r1, r3, m10.trans r4⟩, g8⟩, m31, gl⟩)
    rw [r3]
    rcases r2 with e | e <;> rw [e] <;> decide
  · cases w with
    | some e =>
      obtain ⟨r3, r4, r5⟩ := r3
      refine zT_if0 ?_ (zT_some ⟨Or.inl ⟨rfl, Or.inr ⟨t1, ns, ru1, e, r1, r4, m10.trans r5⟩, g8⟩, m31, gl⟩)
      rw [r4]
      rcases r3 with e | e <;> rw [e] <;> decide
    | none =>
      obtain ⟨r3, r4, r5, r6, r7⟩ := r3
      have h5 : M8 q1 5 = nI ns.length := by rw [mo _ _ (by omega) (by omega)]; exact r6
      refine zT_if1 r3 (zT_bd2 (zT_w (X11_goOn h hq1 x9 h5 r2.1) ?_))
      rintro ⟨R2, M7⟩ ⟨k1, k2, k3, k4, k5, k6⟩
      dsimp only at k1 k2 k3 k4 k5 k6 ⊢
      have ko : ∀ b k, q1 ≤ b → b < q1 + 8 → M7 b k = M2 b k := fun b k b1 b2 => by
        obtain ⟨w1, w2, w3⟩ := gon_no (k := k) hq2 b1 (by omega)
        rw [k6 b k w1, mo b k w2 w3]
      refine zT_some ⟨Or.inr ⟨t1, ns, ru1, r1, r2, r3, k1, ?_, r5.eq (fun k _ _ => ko q1 k (by omega) (by omega)) (fun b k b1 b2 => ko b k (by omega) (by omega)), ⟨_, fun j hj => ?_, k2⟩, k3, k4, k5, ?_⟩, ?_, gl⟩
      · show M7 2 10 = -1
        rw [k6 2 10 (by unfold zblk; omega), m10]
        exact r4
      · rw [mo _ _ (by omega) (by omega)]
        exact r7 j hj
      · exact (g8.mo (fun b k e => Or.inl e)).tr (k6.mo (fun b k e => by
          unfold zblk at e
          show rfA q1 b k ∨ _
          omega))
      · show M7 3 1 = 0
        rw [k6 3 1 (by unfold zblk; omega)]
        exact m31
end RD

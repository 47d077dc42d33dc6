/-! THE CLASS AS IT STANDS: read() -/
theorem zRs_sw {R : zR} {q q1 : Nat} (h : zRs R) : zRs (zupR (zupR R 2 8 q1) 2 9 q) := by
  have ro : ∀ a k, ¬ (a = 2 ∧ (k = 8 ∨ k = 9)) → zupR (zupR R 2 8 q1) 2 9 q a k = R a k := by
    intro a k hh
    unfold zupR
    by_cases e : a = 2
    · rw [if_pos e, if_neg (by omega), if_pos e, if_neg (by omega)]
    · rw [if_neg e, if_neg e]
  generalize zupR (zupR R 2 8 q1) 2 9 q = R2 at ro ⊢
  have rx : ∀ a k, a ≠ 2 → R2 a k = R a k := fun a k ha => ro a k (fun z => ha z.1)
  obtain ⟨s1, s2, s3, s4, s5, s6, s7⟩ := h
  refine ⟨?_, ?_, ?_, ?_, ?_, ?_, ?_⟩
  · exact fun k hk => by rw [rx 242 k (by omega)]; exact s1 k hk
  · obtain ⟨t1, t2, t3, t4, t5, t6⟩ := s2
    have zr : ∀ r, r ≠ 2 → zrg R r → zrg R2 r := fun r hr hz => by
      obtain ⟨z0, z1, z2, z3⟩ := hz
      exact ⟨by rw [rx _ _ hr]; exact z0, by rw [rx _ _ hr]; exact z1, by rw [rx _ _ hr]; exact z2, by rw [rx _ _ hr]; exact z3⟩
    exact ⟨by rw [rx _ _ (by omega)]; exact t1, by rw [rx _ _ (by omega)]; exact t2, by rw [rx _ _ (by omega)]; exact t3, fun j hj => ⟨by rw [rx _ _ (by omega)]; exact (t4 j hj).1, zr _ (by omega) (t4 j hj).2⟩, fun j hj => ⟨by rw [rx _ _ (by omega)]; exact (t5 j hj).1, zr _ (by omega) (t5 j hj).2⟩, zr _ (by omega) t6⟩
  · obtain ⟨x0, x1, x2, x3, x4, x5, x6, x7⟩ := s3
    exact ⟨by rw [ro _ _ (by omega)]; exact x0, by rw [ro _ _ (by omega)]; exact x1, by rw [ro _ _ (by omega)]; exact x2, by rw [ro _ _ (by omega)]; exact x3, by rw [ro _ _ (by omega)]; exact x4, by rw [ro _ _ (by omega)]; exact x5, by rw [ro _ _ (by omega)]; exact x6, by rw [ro _ _ (by omega)]; exact x7⟩
  · obtain ⟨x0, x1, ⟨y0, y1, y2, y3⟩, x3, ⟨v0, v1, v2, v3⟩, x5, x6, ⟨w0, w1, w2, w3⟩, x8, x9, x10, x11, x12, x13, ⟨z0, z1, z2, z3⟩⟩ := s4
    exact ⟨by rw [rx _ _ (by omega)]; exact x0, by rw [rx _ _ (by omega)]; exact x1, ⟨by rw [rx _ _ (by omega)]; exact y0, by rw [rx _ _ (by omega)]; exact y1, by rw [rx _ _ (by omega)]; exact y2, by rw [rx _ _ (by omega)]; exact y3⟩, by rw [rx _ _ (by omega)]; exact x3, ⟨by rw [rx _ _ (by omega)]; exact v0, by rw [rx _ _ (by omega)]; exact v1, by rw [rx _ _ (by omega)]; exact v2, by rw [rx _ _ (by omega)]; exact v3⟩, by rw [rx _ _ (by omega)]; exact x5, by rw [rx _ _ (by omega)]; exact x6, ⟨by rw [rx _ _ (by omega)]; exact w0, by rw [rx _ _ (by omega)]; exact w1, by rw [rx _ _ (by omega)]; exact w2, by rw [rx _ _ (by omega)]; exact w3⟩, by rw [rx _ _ (by omega)]; exact x8, by rw [rx _ _ (by omega)]; exact x9, by rw [rx _ _ (by omega)]; exact x10, by rw [rx _ _ (by omega)]; exact x11, by rw [rx _ _ (by omega)]; exact x12, by rw [rx _ _ (by omega)]; exact x13, ⟨by rw [rx _ _ (by omega)]; exact z0, by rw [rx _ _ (by omega)]; exact z1, by rw [rx _ _ (by omega)]; exact z2, by rw [rx _ _ (by omega)]; exact z3⟩⟩
  · obtain ⟨y0, y1, y2, y3, y4, y5, y6, y7, y8, y9, y10⟩ := s5
    exact ⟨by rw [rx _ _ (by omega)]; exact y0, by rw [rx _ _ (by omega)]; exact y1, by rw [rx _ _ (by omega)]; exact y2, by rw [rx _ _ (by omega)]; exact y3, by rw [rx _ _ (by omega)]; exact y4, by rw [rx _ _ (by omega)]; exact y5, by rw [rx _ _ (by omega)]; exact y6, by rw [rx _ _ (by omega)]; exact y7, by rw [rx _ _ (by omega)]; exact y8, by rw [rx _ _ (by omega)]; exact y9, by rw [rx _ _ (by omega)]; exact y10⟩
  · obtain ⟨y0, y1, y2, y3, y4, y5, y6, y7, y8, y9, y10⟩ := s6
    exact ⟨by rw [rx _ _ (by omega)]; exact y0, by rw [rx _ _ (by omega)]; exact y1, by rw [rx _ _ (by omega)]; exact y2, by rw [rx _ _ (by omega)]; exact y3, by rw [rx _ _ (by omega)]; exact y4, by rw [rx _ _ (by omega)]; exact y5, by rw [rx _ _ (by omega)]; exact y6, by rw [rx _ _ (by omega)]; exact y7, by rw [rx _ _ (by omega)]; exact y8, by rw [rx _ _ (by omega)]; exact y9, by rw [rx _ _ (by omega)]; exact y10⟩
  · obtain ⟨y0, y1, y2, y3, y4, y5, y6, y7⟩ := s7
    exact ⟨by rw [rx _ _ (by omega)]; exact y0, by rw [rx _ _ (by omega)]; exact y1, by rw [rx _ _ (by omega)]; exact y2, by rw [rx _ _ (by omega)]; exact y3, by rw [rx _ _ (by omega)]; exact y4, by rw [rx _ _ (by omega)]; exact y5, by rw [rx _ _ (by omega)]; exact y6, by rw [rx _ _ (by omega)]; exact y7⟩
section KW
variable {R : zR} {M0 M M1 : zM} {L0 L L1 : zL} {q q1 r : Nat} {ru ru1 : zRu}
theorem begin_w (C : kC R M0 q ru) (h : kW M0 L0 M L) : zT (n_X6_begin R M L 13 q) (fun p => kW M0 L0 p.1 p.2) := by
  unfold n_X6_begin
  have h1 : kW M0 L0 (zup M 13 4 0) L := h.cnt (n := 0) k13 (by omega)
  have h2 := ((h1.rup (k := 5) (v := 0) k13 (Nat.le_refl _) (by omega) (by omega)).rup (k := 6) (v := 0) k13 (Nat.le_refl _) (by omega) (by omega)).rup (k := 7) (v := 0) k13 (Nat.le_refl _) (by omega) (by omega)
  refine zT_lt (zT_lt (zT_lt (zT_lt (zT_bd (zT_w (Q := fun p => kW M0 L0 p.1 p.2) ?_ (fun p hp => zT_some hp))))))
  refine zT_for 10 (fun k v => v.1 = nI k ∧ kW M0 L0 v.2.1 v.2.2) ⟨rfl, h2⟩ (by omega) ?_ ?_
  · rintro k ⟨y, M2, L2⟩ hk ⟨rfl, g⟩
    dsimp only at g ⊢
    unfold nb_X6_begin_22
    exact zT_if (fun _ => zT_some g) (fun _ => zT_if0 (by rw [nI_lit 10]; exact nI_ge hk (by omega)) (zT_ck (zin_nI hk (by omega)) (zT_bd2 (zT_w (insert_w C k13 g _ _) (fun p hp => zT_some ⟨nI_1 k, hp⟩)))))
  · rintro ⟨y, M2, L2⟩ ⟨rfl, g⟩
    dsimp only at g ⊢
    unfold nb_X6_begin_22
    exact zT_if (fun _ => zT_some g) (fun _ => zT_if1 (by decide) (zT_some g))
def kGo : Nat → Nat → Prop := fun b k => (b = 18 ∧ k = 4) ∨ b = 21 ∨ (b = 207 ∧ k = 6)
theorem goOn_n (hs : zRs R) (x8 : R 2 8 = q) (x9 : R 2 9 = q1) (hq1 : q = 218 ∧ q1 = 230 ∨ q = 230 ∧ q1 = 218) (hok : zOk ru1) (hcl : clR q1 ru1 none M) (hcnt : ∀ r, kRg r → ∃ n, n ≤ 10 ∧ M r 4 = nI n) : zT (n_X11_goOnFromSpare R M L 2) (fun p => p.1 = zupR (zupR R 2 8 q1) 2 9 q ∧ kC p.1 M q1 ru1 ∧ (∀ j, j < 3 → p.2.1 21 j = 0) ∧ ∃ M3, kW M L M3 p.2.2 ∧ zag kGo M3 p.2.1) := by
  unfold n_X11_goOnFromSpare
  refine zT_lt (zT_lt ?_)
  rw [x8, x9]
  have hs2 : zRs (zupR (zupR R 2 8 q1) 2 9 q) := zRs_sw hs
  have r8 : zupR (zupR R 2 8 q1) 2 9 q 2 8 = q1 := by simp [zupR]
  generalize zupR (zupR R 2 8 q1) 2 9 q = R2 at hs2 r8 ⊢
  have hRq : zRq R2 q1 := by
    rcases hq1 with ⟨_, rfl⟩ | ⟨_, rfl⟩
    · exact hs2.2.2.2.2.2.1
    · exact hs2.2.2.2.2.1
  have C : kC R2 M q1 ru1 := ⟨hs2, r8, by omega, hok, hcl.cr hRq⟩
  rw [C.x2, C.q8, C.x3, C.x7]
  refine zT_bd2 (zT_w (begin_w C (kW.rf hcnt)) ?_)
  rintro ⟨M3, L4⟩ h3
  dsimp only at h3 ⊢
  refine zT_bd (zT_w (X2_clear C.kr.2.2.1) ?_)
  rintro M5 ⟨a5, b5, g5⟩
  unfold f_X10_clear
  refine zT_bd (zT_lt (zT_some (zT_some ⟨rfl, C, fun j hj => ?_, M3, h3, ?_⟩)))
  · show zup M5 207 6 0 21 j = 0
    rw [zup_o (by omega)]
    exact b5 j hj
  · exact (g5.mo (fun b k e => by unfold kGo; omega)).up (by unfold kGo; omega)
/-- the class's cells that stand as they were over a read(), whatever it said -/
def kRd : Nat → Nat → Prop := fun b k => b = 4 ∨ 242 ≤ b
def rdN (R : zR) (M : zM) (L : zL) (q q1 : Nat) (ru : zRu) (K V P : Nat → Int32) (c : Nat) (res : tF ⊕ (Nat × zTx)) (p : Int32 × zR × zM × zL) : Prop :=
  ((p.2.1 = R ∧ ((∃ f, res = .inl f ∧ p.1 = nI f.1 ∧ p.2.2.1 2 10 = P f.2) ∨ (∃ t ns ru e, res = .inr (t, ns, ru, some e) ∧ p.1 = nI e.1 ∧ p.2.2.1 2 10 = P e.2)) ∧ kC R p.2.2.1 q ru ∧ zag (rfA q1) M p.2.2.1) ∨
   (∃ t ns ru1, res = .inr (t, ns, ru1, none) ∧ xOk K c (ns, ru1, none) ∧ p.1 = 0 ∧ p.2.1 = zupR (zupR R 2 8 q1) 2 9 q ∧ p.2.2.1 2 10 = -1 ∧ kC p.2.1 p.2.2.1 q1 ru1 ∧ ∀ j, j < 3 → p.2.2.1 21 j = 0)) ∧
  p.2.2.1 3 1 = 0 ∧ (∀ b k, kRd b k → p.2.2.1 b k = M b k) ∧ (∀ r, kRg r → ∃ n, n ≤ 10 ∧ p.2.2.1 r 4 = nI n) ∧ ∀ b, b ≠ 9 → b ≠ 11 → (b < 13 ∨ 242 ≤ b) → p.2.2.2 b = L b
theorem rf_no {b k : Nat} (hq1 : q1 = 230 ∨ q1 = 218) (hb : kRd b k ∨ (kRg b ∧ k = 4)) : ¬ rfA q1 b k := by
  unfold kRd kRg at hb
  unfold rfA paA
  omega
theorem rf_cr {b k : Nat} (hq1 : q = 218 ∧ q1 = 230 ∨ q = 230 ∧ q1 = 218) (p1 : q ≤ b) (p2 : b < q + 8) : ¬ rfA q1 b k := by
  unfold rfA paA
  omega
theorem go_cr {b k : Nat} (hq1 : q1 = 230 ∨ q1 = 218) (p1 : q1 ≤ b) (p2 : b < q1 + 8) : ¬ kGo b k := by
  unfold kGo
  omega
theorem readC_n (C : kC R M q ru) (x9 : R 2 9 = q1) (hcnt : ∀ r, kRg r → ∃ n, n ≤ 10 ∧ M r 4 = nI n) (hL : wdOkC L) (hq1 : q = 218 ∧ q1 = 230 ∨ q = 230 ∧ q1 = 218) {B : Nat → Nat} {t : Nat} (hB : ∀ i, B i < 256) (hb : ∀ j, j < t → B j = zbyte (M 4 j)) (ht : t ≤ 2000) (h3 : M 3 1 = nI t) : zT (n_X11_read R M L 2) (rdN R M L q q1 ru (kN B t) (vN B t) (pN B t) (cN B t) (texS (kN B t) (vN B t) (eN B t) 401 0 ([], ru0, none))) := by
  obtain ⟨x0, x1, x2, x3, x4, x5, x6, x7⟩ := id C.xr
  have hs := C.rs
  have hq2 : q1 = 230 ∨ q1 = 218 := by omega
  have hRq : zRq R q1 := by
    rcases hq1 with ⟨_, rfl⟩ | ⟨_, rfl⟩
    · exact hs.2.2.2.2.2.1
    · exact hs.2.2.2.2.1
  have hp : zRp R := hs.2.2.2.2.2.2
  obtain ⟨p0, hp0, s1, s2, s3, s4, s5⟩ := X9_scan hp hL hB hb ht h3
  have hV : valS (kN B t) (vN B t) (cN B t) := fun i hi hk => (s5 i hi hk).1
  have hsc := X5_text hp (q := q1) (by omega) hRq kN_end hV ⟨p0, hp0, s1, s2, s3, s4⟩
  generalize texS (kN B t) (vN B t) (eN B t) 401 0 ([], ru0, none) = res at hsc ⊢
  unfold n_X11_read
  rw [x0, x1, x9]
  refine zT_bd3 (zT_w hsc ?_)
  rintro ⟨r, M2, L3⟩ ⟨hres, g, gl⟩
  dsimp only at hres g gl ⊢
  have gl2 : ∀ b, b ≠ 9 → b ≠ 11 → L3 b = L b := fun b h1 h2 => funext fun j => gl b j h1 h2
  refine zT_lt ?_
  unfold f_X5_faultPlace
  refine zT_bd (zT_some (zT_lt ?_))
  have e57 : zup M2 3 1 0 5 7 = M2 5 7 := zup_o (by omega)
  rw [e57]
  have m10 : zup (zup M2 3 1 0) 2 10 (M2 5 7) 2 10 = M2 5 7 := zup_same
  have m31 : zup (zup M2 3 1 0) 2 10 (M2 5 7) 3 1 = 0 := by rw [zup_o (by omega), zup_same]
  have mo : ∀ b k, ¬ (b = 3 ∧ k = 1) → ¬ (b = 2 ∧ k = 10) → zup (zup M2 3 1 0) 2 10 (M2 5 7) b k = M2 b k := fun b k h1 h2 => by rw [zup_o h2, zup_o h1]
  have g8 : zag (rfA q1) M (zup (zup M2 3 1 0) 2 10 (M2 5 7)) := ((g.mo (fun b k e => by unfold rfA; rcases e with e | e; exact Or.inl e; exact Or.inr (Or.inl e))).up (by unfold rfA; omega)).up (by unfold rfA; omega)
  generalize zup (zup M2 3 1 0) 2 10 (M2 5 7) = M8 at m10 m31 mo g8 ⊢
  have f4 : ∀ b k, kRd b k → M8 b k = M b k := fun b k hb => g8 b k (rf_no hq2 (Or.inl hb))
  have c4 : ∀ r, kRg r → ∃ n, n ≤ 10 ∧ M8 r 4 = nI n := fun r hr => by
    obtain ⟨n, hn, e⟩ := hcnt r hr
    exact ⟨n, hn, by rw [g8 r 4 (rf_no hq2 (Or.inr ⟨hr, rfl⟩))]; exact e⟩
  have cr8 : kC R M8 q ru := ⟨C.1, C.2.1, C.2.2.1, C.2.2.2.1, C.cr.eq (fun b k p1 p2 p3 => g8 b k (rf_cr hq1 p1 p2))⟩
  rcases hres with ⟨f, r1, r2, r3, r4⟩ | ⟨t1, ns, ru1, w, r1, r2, r3⟩
  · refine zT_if0 ?_ (zT_some ⟨Or.inl ⟨rfl, Or.inl ⟨f, r1, r3, m10.trans r4⟩, cr8, g8⟩, m31, f4, c4, fun b h1 h2 _ => gl2 b h1 h2⟩)
    rw [r3]
    rcases r2 with e | e <;> rw [e] <;> decide
  · cases w with
    | some e =>
      obtain ⟨r3, r4, r5⟩ := r3
      refine zT_if0 ?_ (zT_some ⟨Or.inl ⟨rfl, Or.inr ⟨t1, ns, ru1, e, r1, r4, m10.trans r5⟩, cr8, g8⟩, m31, f4, c4, fun b h1 h2 _ => gl2 b h1 h2⟩)
      rw [r4]
      rcases r3 with e | e <;> rw [e] <;> decide
    | none =>
      obtain ⟨r3, r4, r5, r6, r7⟩ := r3
      have hcl : clR q1 ru1 none M8 := r5.eq (fun k _ _ => mo q1 k (by omega) (by omega)) (fun b k b1 b2 => mo b k (by omega) (by omega))
      have hok : zOk ru1 := ⟨r2.2.2.2.2.1, r2.2.2.2.2.2 rfl, r2.2.2.1, r2.2.2.2.1⟩
      refine zT_if1 r3 (zT_bd3 (zT_w (goOn_n (L := L3) hs C.q8 x9 hq1 hok hcl c4) ?_))
      rintro ⟨R2, M7, L7⟩ ⟨k1, k2, k3, M3, k4, k5⟩
      dsimp only at k1 k2 k3 k4 k5 ⊢
      have o3 : ∀ b k, ¬ kFp b k → ¬ kGo b k → M7 b k = M8 b k := fun b k h1 h2 => (k5 b k h2).trans (k4.1 b k h1)
      refine zT_some ⟨Or.inr ⟨t1, ns, ru1, r1, r2, r3, k1, ?_, ?_, k3⟩, ?_, fun b k hb => ?_, fun r hr => ?_, fun b h1 h2 h3 => ?_⟩
      · show M7 2 10 = -1
        rw [o3 2 10 (by unfold kFp zsk; omega) (by unfold kGo; omega), m10]
        exact r4
      · have z := k4.cr k2
        exact ⟨k2.1, k2.2.1, k2.2.2.1, k2.2.2.2.1, z.eq (fun b k b1 b2 b3 => k5 b k (go_cr hq2 b1 b2))⟩
      · show M7 3 1 = 0
        rw [o3 3 1 (by unfold kFp zsk; omega) (by unfold kGo; omega)]
        exact m31
      · show M7 b k = M b k
        rw [o3 b k (by unfold kRd at hb; unfold kFp zsk; omega) (by unfold kRd at hb; unfold kGo; omega)]
        exact f4 b k hb
      · show ∃ n, n ≤ 10 ∧ M7 r 4 = nI n
        obtain ⟨n, hn, e⟩ := k4.n hr
        exact ⟨n, hn, by rw [k5 r 4 (by unfold kRg at hr; unfold kGo; omega)]; exact e⟩
      · show L7 b = L b
        rw [k4.2.1 b h3]
        exact gl2 b h1 h2
end KW

/-! READ: both sides alike -/
theorem wdOkC.eq {L L1 : zL} (h : wdOkC L) (he : ∀ j, L1 10 j = L 10 j) : wdOkC L1 := fun k hk => (he k).trans (h k hk)
theorem wdOkR.eq {L L1 : zL} (h : wdOkR L) (he : ∀ j, L1 249 j = L 249 j) : wdOkR L1 := fun k hk => (he k).trans (h k hk)
theorem rr_no {l1 b k : Nat} (hb : b < 242 ∨ 270 ≤ b) : ¬ rrA l1 b k := by
  unfold rrA reA exA
  omega
theorem rr_n2 {l1 k : Nat} (hk : k = 18 ∨ k = 48 ∨ k = 53) : ¬ rrA l1 242 k := by
  unfold rrA reA exA
  omega
theorem rr_same {l l1 : Nat} {M M1 : zM} (hll : l = 0 ∧ l1 = 1 ∨ l = 1 ∧ l1 = 0) (g : zag (rrA l1) M M1) : zSame l M M1 := by
  refine ⟨fun a q1 q2 => g a l ?_, fun a k q1 q2 q3 q4 => g a k ?_, fun a k q1 q2 q3 q4 => g a k ?_, fun a k q1 q2 q3 q4 => g a k ?_⟩ <;>
  · unfold rrA reA exA
    omega
theorem sumN_b {p : Nat → Nat} {b : Nat} : ∀ n, (∀ j, j < n → p j ≤ b) → sumN p n ≤ n * b
  | 0, _ => Nat.zero_le _
  | n + 1, h => by
    have h1 := sumN_b n (fun j hj => h j (by omega))
    have h2 := h n (by omega)
    unfold sumN
    rw [Nat.succ_mul]
    omega
theorem nI_of0 {x : Int32} (h0 : 0 ≤ x) {m : Nat} (h : x ≤ nI m) (hm : m < 2147483648) : ∃ d, d ≤ m ∧ x = nI d := nI_upto (fun z => absurd h0 (Int32.not_le.2 z)) h hm
section RD
variable {R R1 : zR} {M M1 M2 : zM} {L : zL} {ru ru1 : zRu} {q q1 l l1 n T S u x : Nat}
/-- a fault: all stays, the tape is empty -/
theorem zSt.bad (h : zSt R M ru q l n T S u x) (hq1 : q = 218 ∧ q1 = 230 ∨ q = 230 ∧ q1 = 218) (hll : l = 0 ∧ l1 = 1 ∨ l = 1 ∧ l1 = 0) (g1 : zag (rfA q1) M M1) (g2 : zag (rrA l1) M1 M2) (h3 : M1 3 1 = 0) (h2 : M2 242 2 = 0) (hp : M1 2 10 = M2 242 17) : zSt R M2 ru q l n T S u x := by
  have a : ∀ b k, b < 242 → M2 b k = M1 b k := fun b k hb => g2 b k (rr_no (Or.inl hb))
  have a2 : ∀ b k, 242 ≤ b → M1 b k = M b k := fun b k hb => g1 b k (by unfold rfA paA; omega)
  have a3 : ∀ b k, 270 ≤ b → M2 b k = M b k := fun b k hb => (g2 b k (rr_no (Or.inr hb))).trans (a2 b k (by omega))
  have a4 : ∀ b k, b < 242 → ¬ rfA q1 b k → M2 b k = M b k := fun b k hb hn => (a b k hb).trans (g1 b k hn)
  have a5 : ∀ k, k = 18 ∨ k = 48 ∨ k = 53 → M2 242 k = M 242 k := fun k hk => (g2 242 k (rr_n2 hk)).trans (a2 242 k (Nat.le_refl _))
  have r : M2 270 = M 270 := funext fun k => a3 270 k (by omega)
  obtain ⟨h1, h2', h3', h4, h5, h6, h7, h8, h9, h10, h11, h12, h13, h14, h15⟩ := h
  refine ⟨h1, h2', h3', h4, h5, ?_, ?_, ?_, ?_, ?_, ?_, ?_, ?_, ?_, ?_⟩
  · exact h6.eq (fun b k p1 p2 p3 => a4 b k (by omega) (by unfold rfA paA; omega))
  · refine (h7.eq (M1 := M1) ⟨fun c p1 p2 => a2 c l (by omega), fun c k p1 p2 _ _ => a2 c k (by omega), fun c k p1 p2 _ _ => a2 c k (by omega), fun c k p1 p2 _ _ => a2 c k (by omega)⟩).eq (rr_same hll g2)
  · rw [a5 18 (by omega)]
    exact h8
  · rw [r]
    exact h9.cells (fun b k p1 p2 => a4 b k (by omega) (by unfold rfA paA; omega))
  · rw [r]
    exact h10
  · exact h11.eq (a5 48 (by omega)) (a4 18 4 (by omega) (by unfold rfA paA; omega)) (a4 18 3 (by omega) (by unfold rfA paA; omega)) (fun k => a3 273 k (by omega)) (fun b k p1 p2 => a4 b k (by omega) (by unfold rfA paA; omega))
  · exact h12.eq (fun k => a4 21 k (by omega) (by unfold rfA paA; omega)) (fun k => a3 281 k (by omega)) (fun k => a3 282 k (by omega)) (fun b k p1 p2 => a4 b k (by omega) (by unfold rfA paA; omega))
  · obtain ⟨t, t1, t2, t3, t4⟩ := h13
    refine ⟨t, t1, by rw [a4 207 6 (by omega) (by unfold rfA paA; omega)]; exact t2, by rw [a5 53 (by omega)]; exact t3, fun i hi => ?_⟩
    rw [a3 276 i (by omega), a3 277 i (by omega), a4 208 i (by omega) (by unfold rfA paA; omega), a4 209 i (by omega) (by unfold rfA paA; omega)]
    exact t4 i hi
  · exact ⟨0, by omega, by rw [a 3 1 (by omega)]; exact h3, h2, fun i hi => absurd hi (by omega)⟩
  · rw [a 2 10 (by omega)]
    exact hp
/-- no fault: begun anew -/
theorem zSt.new (h : zSt R M ru q l n T S u x) (hq1 : q = 218 ∧ q1 = 230 ∨ q = 230 ∧ q1 = 218) (hll : l = 0 ∧ l1 = 1 ∨ l = 1 ∧ l1 = 0) {K V : Nat → Int32} {c : Nat} {ns : List Nat} (hv : ∀ i, i ≤ c → K i = 2 → 0 ≤ V i ∧ V i ≤ 9999) (hx : xOk K c (ns, ru1, none)) (hc : clR q1 ru1 none M1) {f : Nat → Int32} (hf : ∀ j, j < ns.length → f j = V (ns.getD j 0 + 1)) (hw : RW M1 13 ns.length (begF f ns.length)) (h4 : M1 18 4 = 0) (h21 : ∀ j, j < 3 → M1 21 j = 0) (h6 : M1 207 6 = 0) (g1 : zag (rcA q1) M M1) (h3 : M1 3 1 = 0)
    (c18 : M2 242 18 = nI l1) (cz : zMz M2 l1 ru1) (cp : ∀ j, j < ns.length → M2 270 j = V (ns.getD j 0 + 1)) (c0 : ∀ j, ns.length ≤ j → j < 60 → j ≠ 40 → M2 270 j = 0) (c40 : M2 270 40 = nI ns.length) (c48 : M2 242 48 = 0) (c53 : M2 242 53 = 0) (c81 : ∀ j, j < 3 → M2 281 j = 0) (g2 : zag (roA l1) M1 M2) (h2 : M2 242 2 = 0) (hp : M1 2 10 = M2 242 17) : zOut (zupR (zupR R 2 8 q1) 2 9 q) M2 (T + 3000000) (S + 300) := by
  have ro : ∀ a k, ¬ (a = 2 ∧ (k = 8 ∨ k = 9)) → zupR (zupR R 2 8 q1) 2 9 q a k = R a k := by
    intro a k hh
    unfold zupR
    by_cases e : a = 2
    · rw [if_pos e, if_neg (by omega), if_pos e, if_neg (by omega)]
    · rw [if_neg e, if_neg e]
  have r8 : zupR (zupR R 2 8 q1) 2 9 q 2 8 = q1 := by simp [zupR]
  have r9 : zupR (zupR R 2 8 q1) 2 9 q 2 9 = q := by simp [zupR]
  generalize zupR (zupR R 2 8 q1) 2 9 q = R2 at ro r8 r9 ⊢
  have rx : ∀ a k, a ≠ 2 → R2 a k = R a k := fun a k ha => ro a k (fun z => ha z.1)
  have a : ∀ b k, b < 242 → M2 b k = M1 b k := fun b k hb => g2 b k (fun w => by
    rcases w with w | w
    · exact rr_no (Or.inl hb) w
    · omega)
  have hn : ns.length ≤ 10 := hx.1
  have hx3 := h.kp.2.1
  have hk3 := h.kp.2.2.2.2.1
  have hRs : zRs R2 := by
    obtain ⟨s1, s2, s3, s4, s5, s6, s7⟩ := h.rs
    refine ⟨?_, ?_, ?_, ?_, ?_, ?_, ?_⟩
    · exact fun k hk => by rw [rx 242 k (by omega)]; exact s1 k hk
    · obtain ⟨t1, t2, t3, t4, t5, t6⟩ := s2
      have zr : ∀ r, r ≠ 2 → zrg R r → zrg R2 r := fun r hr hz => by
        obtain ⟨z0, z1, z2, z3⟩ := hz
        exact ⟨by rw [rx _ _ hr]; exact z0, by rw [rx _ _ hr]; exact z1, by rw [rx _ _ hr]; exact z2, by rw [rx _ _ hr]; exact z3⟩
      exact ⟨by rw [rx _ _ (by omega)]; exact t1, by rw [rx _ _ (by omega)]; exact t2, by rw [rx _ _ (by omega)]; exact t3, fun j hj => ⟨by rw [rx _ _ (by omega)]; exact (t4 j hj).1, zr _ (by omega) (t4 j hj).2⟩, fun j hj => ⟨by rw [rx _ _ (by omega)]; exact (t5 j hj).1, zr _ (by omega) (t5 j hj).2⟩, zr _ (by omega) t6⟩
    · obtain ⟨x0, x1, x2, x3, x4, x5, x6, x7⟩ := s3
      exact ⟨by rw [ro _ _ (by omega)]; exact x0, by rw [ro _ _ (by omega)]; exact x1, by rw [ro _ _ (by omega)]; exact x2, by rw [ro _ _ (by omega)]; exact x3, by rw [ro _ _ (by omega)]; exact x4, by rw [ro _ _ (by omega)]; exact x5, by rw [ro _ _ (by omega)]; exact x6, by rw [ro _ _ (by omega)]; exact x7⟩
    · obtain ⟨x0, x1, ⟨y0, y1, y2, y3⟩, x3, ⟨v0, v1, v2, v3⟩, x5, x6, ⟨w0, w1, w2, w3⟩, x8, x9, x10, x11, x12, x13, ⟨z0, z1, z2, z3⟩⟩ := s4
      exact ⟨by rw [rx _ _ (by omega)]; exact x0, by rw [rx _ _ (by omega)]; exact x1, ⟨by rw [rx _ _ (by omega)]; exact y0, by rw [rx _ _ (by omega)]; exact y1, by rw [rx _ _ (by omega)]; exact y2, by rw [rx _ _ (by omega)]; exact y3⟩, by rw [rx _ _ (by omega)]; exact x3, ⟨by rw [rx _ _ (by omega)]; exact v0, by rw [rx _ _ (by omega)]; exact v1, by rw [rx _ _ (by omega)]; exact v2, by rw [rx _ _ (by omega)]; exact v3⟩, by rw [rx _ _ (by omega)]; exact x5, by rw [rx _ _ (by omega)]; exact x6, ⟨by rw [rx _ _ (by omega)]; exact w0, by rw [rx _ _ (by omega)]; exact w1, by rw [rx _ _ (by omega)]; exact w2, by rw [rx _ _ (by omega)]; exact w3⟩, by rw [rx _ _ (by omega)]; exact x8, by rw [rx _ _ (by omega)]; exact x9, by rw [rx _ _ (by omega)]; exact x10, by rw [rx _ _ (by omega)]; exact x11, by rw [rx _ _ (by omega)]; exact x12, by rw [rx _ _ (by omega)]; exact x13, ⟨by rw [rx _ _ (by omega)]; exact z0, by rw [rx _ _ (by omega)]; exact z1, by rw [rx _ _ (by omega)]; exact z2, by rw [rx _ _ (by omega)]; exact z3⟩⟩
    · obtain ⟨y0, y1, y2, y3, y4, y5, y6, y7, y8, y9, y10⟩ := s5
      exact ⟨by rw [rx _ _ (by omega)]; exact y0, by rw [rx _ _ (by omega)]; exact y1, by rw [rx _ _ (by omega)]; exact y2, by rw [rx _ _ (by omega)]; exact y3, by rw [rx _ _ (by omega)]; exact y4, by rw [rx _ _ (by omega)]; exact y5, by rw [rx _ _ (by omega)]; exact y6, by rw [rx _ _ (by omega)]; exact y7, by rw [rx _ _ (by omega)]; exact y8, by rw [rx _ _ (by omega)]; exact y9, by rw [rx _ _ (by omega)]; exact y10⟩
    · obtain ⟨y0, y1, y2, y3, y4, y5, y6, y7, y8, y9, y10⟩ := s6
      exact ⟨by rw [rx _ _ (by omega)]; exact y0, by rw [rx _ _ (by omega)]; exact y1, by rw [rx _ _ (by omega)]; exact y2, by rw [rx _ _ (by omega)]; exact y3, by rw [rx _ _ (by omega)]; exact y4, by rw [rx _ _ (by omega)]; exact y5, by rw [rx _ _ (by omega)]; exact y6, by rw [rx _ _ (by omega)]; exact y7, by rw [rx _ _ (by omega)]; exact y8, by rw [rx _ _ (by omega)]; exact y9, by rw [rx _ _ (by omega)]; exact y10⟩
    · obtain ⟨y0, y1, y2, y3, y4, y5, y6, y7⟩ := s7
      exact ⟨by rw [rx _ _ (by omega)]; exact y0, by rw [rx _ _ (by omega)]; exact y1, by rw [rx _ _ (by omega)]; exact y2, by rw [rx _ _ (by omega)]; exact y3, by rw [rx _ _ (by omega)]; exact y4, by rw [rx _ _ (by omega)]; exact y5, by rw [rx _ _ (by omega)]; exact y6, by rw [rx _ _ (by omega)]; exact y7⟩
  have hRq : zRq R2 q1 := by
    rcases hq1 with ⟨_, rfl⟩ | ⟨_, rfl⟩
    · exact hRs.2.2.2.2.2.1
    · exact hRs.2.2.2.2.1
  obtain ⟨b1, b2, b3⟩ := begF_at (f := f) ns.length hn
  have hpf : ∀ j, j < ns.length → ∃ d, d ≤ 9999 ∧ V (ns.getD j 0 + 1) = nI d := fun j hj => by
    have hm : ns.getD j 0 ∈ ns := by
      rw [List.getD_eq_getElem?_getD, List.getElem?_eq_getElem hj]
      exact List.getElem_mem hj
    obtain ⟨i1, i2, i3⟩ := hx.2.1 _ hm
    obtain ⟨v1, v2⟩ := hv _ i1 i3
    exact nI_of0 v1 v2 (by omega)
  refine ⟨ru1, q1, l1, ns.length, 0, x, hRs, r8, by rw [r9]; omega, by omega, ⟨hx.2.2.2.2.1, hx.2.2.2.2.2 rfl, hx.2.2.1, hx.2.2.2.1⟩, ?_, cz, c18, ?_, ?_, ?_, ?_, ?_, ?_, ?_⟩
  · exact (clR.cr hRq (hc.eq (fun k _ _ => a q1 k (by omega)) (fun b k p1 p2 => a b k (by omega))))
  · refine (hw.cells (fun b k p1 p2 => a b k (by omega))).to (fun k k1 k2 => ?_) (fun p j hp hj => ?_)
    · by_cases e : k = 40
      · rw [e, b2]
        exact c40
      · rw [b3 k (by omega)]
        exact c0 k (by omega) (by omega) e
    · rw [b1 p j hp hj]
      by_cases e : p = 0
      · rw [if_pos e, e, hf j hj]
        show M2 270 (10 * 0 + j) = _
        rw [show 10 * 0 + j = j by omega]
        exact cp j hj
      · rw [if_neg e]
        exact c0 _ (by omega) (by omega) (by omega)
  · refine ⟨hn, c40, ⟨0, by omega, c0 43 (by omega) (by omega) (by omega)⟩, fun j => if j < ns.length then (V (ns.getD j 0 + 1)).toNatClampNeg else 0, fun _ => 0, 0, fun j hj => ⟨?_, c0 _ (by omega) (by omega) (by omega), Nat.zero_le _⟩, c0 41 (by omega) (by omega) (by omega), ?_⟩
    · obtain ⟨d, d1, d2⟩ := hpf j hj
      show M2 270 j = nI (if j < ns.length then _ else 0)
      rw [if_pos hj, cp j hj, d2]
      exact congrArg nI (ztn_nI (by omega)).symm
    · have hs := sumN_b (p := fun j => if j < ns.length then (V (ns.getD j 0 + 1)).toNatClampNeg else 0) (b := 9999) ns.length (fun j hj => by
        obtain ⟨d, d1, d2⟩ := hpf j hj
        show (if j < ns.length then _ else 0) ≤ 9999
        rw [if_pos hj, d2]
        exact Nat.le_trans (Nat.le_of_eq (ztn_nI (by omega))) d1)
      have h10 : ns.length * 9999 ≤ 10 * 9999 := Nat.mul_le_mul_right _ hn
      omega
  · refine ⟨Nat.zero_le _, hx3, c48, by rw [a 18 4 (by omega)]; exact h4, ?_, fun j hj => absurd hj (by omega)⟩
    rw [a 18 3 (by omega), g1 18 3 (by unfold rcA rfA paA; omega)]
    exact hk3
  · exact fun s hs => Or.inl ⟨by rw [a 21 s (by omega)]; exact h21 s hs, c81 s hs⟩
  · exact ⟨0, by omega, by rw [a 207 6 (by omega)]; exact h6, c53, fun i hi => absurd hi (by omega)⟩
  · exact ⟨0, by omega, by rw [a 3 1 (by omega)]; exact h3, h2, fun i hi => absurd hi (by omega)⟩
  · rw [a 2 10 (by omega)]
    exact hp
theorem zReadO (h : zSt R M ru q l n T S u x) (hL : zLk L) : zT (f_X11_read R M L 2) (fun p => (p.2.1 = R ∨ p.2.1 = zupR (zupR R 2 8 (448 - q)) 2 9 q) ∧ zT (f_X12_read p.2.1 p.2.2.1 p.2.2.2 242) (fun p1 => p1.1 = p.1 ∧ zOut p.2.1 p1.2.1 (T + 3000000) (S + 300) ∧ zLk p1.2.2)) := by
  obtain ⟨t, t1, t2, t3, t4⟩ := h.tp
  have hq := h.qq
  have hl := h.ll
  obtain ⟨q1, hq1⟩ : ∃ q1, q = 218 ∧ q1 = 230 ∨ q = 230 ∧ q1 = 218 := ⟨448 - q, by omega⟩
  obtain ⟨l1, hll⟩ : ∃ l1, l = 0 ∧ l1 = 1 ∨ l = 1 ∧ l1 = 0 := ⟨1 - l, by omega⟩
  have hB : ∀ i, (fun j => zbyte (M 243 j)) i < 256 := fun i => zbyte_lt _
  have hb : ∀ j, j < t → (fun j => zbyte (M 243 j)) j = zbyte (M 4 j) := fun j hj => by
    show zbyte (M 243 j) = _
    rw [t4 j hj]
  have hv : ∀ i, i ≤ cN (fun j => zbyte (M 243 j)) t → kN (fun j => zbyte (M 243 j)) t i = 2 → 0 ≤ vN (fun j => zbyte (M 243 j)) t i ∧ vN (fun j => zbyte (M 243 j)) t i ≤ 9999 := by
    obtain ⟨p0, hp0, s1, s2, s3, s4, s5⟩ := X9_scan h.rs.2.2.2.2.2.2 hL.1 hB hb t1 t2
    exact s5
  refine zT_w (X11_readC h hL.1 hq1 hB hb t1 t2) ?_
  rintro ⟨r, R2, M1, L1⟩ ⟨hres, m31, gl⟩
  dsimp only at hres m31 gl ⊢
  refine ⟨?_, ?_⟩
  · rcases hres with ⟨h1, _⟩ | ⟨_, _, _, _, _, _, h1, _⟩
    · exact Or.inl h1
    · exact Or.inr (h1.trans (by rw [show q1 = 448 - q by omega]))
  have hLR : wdOkR L1 := hL.2.eq (fun j => gl 249 j (by omega) (by omega))
  have hLC : wdOkC L1 := hL.1.eq (fun j => gl 10 j (by omega) (by omega))
  have gM : ∀ b k, 242 ≤ b → M1 b k = M b k := by
    rcases hres with ⟨_, _, g⟩ | ⟨_, _, _, _, _, _, _, _, _, _, _, _, _, g⟩
    · exact fun b k hb => g b k (by unfold rfA paA; omega)
    · exact fun b k hb => g b k (by unfold rcA rfA paA; omega)
  have hR2 : zMd R2 := by
    rcases hres with ⟨rfl, _⟩ | ⟨_, _, _, _, _, _, rfl, _⟩
    · exact h.md
    · exact fun k hk => by
        rw [show zupR (zupR R 2 8 q1) 2 9 q 242 k = R 242 k by simp [zupR]]
        exact h.md k hk
  have hbM : ∀ j, (fun j => zbyte (M 243 j)) j = zbyte (M1 243 j) := fun j => by
    show zbyte (M 243 j) = _
    rw [gM 243 j (by omega)]
  refine zT_w (X12_readC (L := L1) hR2 hLR hll (by rw [gM 242 18 (by omega)]; exact h.l18) (by rw [gM 242 2 (by omega)]; exact t3) t1 hB hbM hv) ?_
  generalize texS (kN (fun j => zbyte (M 243 j)) t) (vN (fun j => zbyte (M 243 j)) t) (eN (fun j => zbyte (M 243 j)) t) 401 0 ([], ru0, none) = res at hres ⊢
  rintro ⟨r2, M2, L2⟩ ⟨hres2, m2, gl2⟩
  dsimp only at hres2 m2 gl2 ⊢
  have hLk : zLk L2 := ⟨hLC.eq (fun j => gl2 10 j (by omega) (by omega)), hLR.eq (fun j => gl2 249 j (by omega) (by omega))⟩
  rcases hres with ⟨rfl, hf, g1⟩ | ⟨tt, ns, ru1, e1, hx, e2, e3, e4, e5, ⟨f, e6, e7⟩, e8, e9, e10, g1⟩
  · rcases hres2 with ⟨hf2, g2⟩ | ⟨tt2, ns2, ru2, d1, -⟩
    · have hh : r2 = r ∧ M1 2 10 = M2 242 17 := by
        rcases hf with ⟨f, r1, r2, r3⟩ | ⟨_, _, _, f, r1, r2, r3⟩ <;> rcases hf2 with ⟨f2, w1, w2, w3⟩ | ⟨_, _, _, f2, w1, w2, w3⟩
        · rw [r1] at w1
          injection w1 with w1
          subst w1
          exact ⟨w2.trans r2.symm, r3.trans w3.symm⟩
        · rw [r1] at w1
          cases w1
        · rw [r1] at w1
          cases w1
        · rw [r1] at w1
          have w4 : f = f2 := by
            injection w1 with w1
            injection w1 with _ w1
            injection w1 with _ w1
            injection w1 with _ w1
            injection w1
          subst w4
          exact ⟨w2.trans r2.symm, r3.trans w3.symm⟩
      exact ⟨hh.1, (h.bad hq1 hll g1 g2 m31 m2 hh.2).out (by omega) (by omega), hLk⟩
    · rcases hf with ⟨f, r1, -⟩ | ⟨_, _, _, f, r1, -⟩ <;> rw [r1] at d1 <;> cases d1
  · rcases hres2 with ⟨hf2, g2⟩ | ⟨tt2, ns2, ru2, d1, d2, d3, d4, d5, d6, d7, d8, d9, d10, d11, g2⟩
    · rcases hf2 with ⟨f, r1, -⟩ | ⟨_, _, _, f, r1, -⟩ <;> rw [e1] at r1 <;> cases r1
    · rw [e1] at d1
      have hns : ns = ns2 ∧ ru1 = ru2 := by
        injection d1 with d1
        injection d1 with _ d1
        injection d1 with d0 d1
        injection d1 with d1 _
        exact ⟨d0, d1⟩
      obtain ⟨rfl, rfl⟩ := hns
      subst e3
      exact ⟨d2.trans e2.symm, zSt.new h hq1 hll hv hx e5 e6 e7 e8 e9 e10 g1 m31 d4 d5 d6 d7 d8 d9 d10 d11 g2 m2 (e4.trans d3.symm), hLk⟩
end RD

/-! THE CLASS AS IT STANDS: no call throws, whatever was paid. What its rings hold is left open; kept: how many houses each ring has, the rules, the text's cells -/
def kRg (r : Nat) : Prop := r = 13 ∨ r = 188 ∨ r = 195 ∨ r = 201 ∨ r = 213 ∨ (22 ≤ r ∧ r < 187 ∧ (r - 22) % 5 = 0)
/-- the class's cells that calls may change (flags of slots, what was told, the text aside) -/
def kFp (b k : Nat) : Prop := zsk b k ∨ (13 ≤ b ∧ b < 18) ∨ (b = 18 ∧ (k = 3 ∨ k = 4)) ∨ (22 ≤ b ∧ b < 187)
def kW (M0 : zM) (L0 : zL) (M : zM) (L : zL) : Prop := zag kFp M0 M ∧ (∀ b, b < 13 ∨ 242 ≤ b → L b = L0 b) ∧ ∀ r, kRg r → ∃ n, n ≤ 10 ∧ M r 4 = nI n
def kC (R : zR) (M0 : zM) (q : Nat) (ru : zRu) : Prop := zRs R ∧ R 2 8 = q ∧ (q = 218 ∨ q = 230) ∧ zOk ru ∧ zCr R M0 q ru
theorem kRg.lt {r : Nat} (h : kRg r) : 13 ≤ r ∧ r + 5 ≤ 218 := by
  unfold kRg at h
  omega
theorem kRg.in_ {r : Nat} (h : kRg r) {a : Nat} (h1 : r < a) (h2 : a < r + 5) : ¬ kRg a ∧ ∀ k, kFp a k := by
  unfold kRg at *
  refine ⟨by omega, fun k => ?_⟩
  unfold kFp zsk
  omega
theorem kRg.at {r k : Nat} (h : kRg r) : kFp r k := by
  unfold kRg at h
  unfold kFp zsk
  omega
theorem kRg.sp (j : Nat) (h : j < 33) : kRg (22 + 5 * j) := by
  unfold kRg
  omega
section KW
variable {R : zR} {M0 M M1 : zM} {L0 L L1 : zL} {q r : Nat} {ru : zRu}
theorem kC.rs (C : kC R M0 q ru) : zRs R := C.1
theorem kC.kr (C : kC R M0 q ru) : zKR R := C.1.2.1
theorem kC.xr (C : kC R M0 q ru) : zXR R := C.1.2.2.1
theorem kC.rt (C : kC R M0 q ru) : zRt R := C.1.2.2.2.1
theorem kC.q8 (C : kC R M0 q ru) : R 2 8 = q := C.2.1
theorem kC.qq (C : kC R M0 q ru) : q = 218 ∨ q = 230 := C.2.2.1
theorem kC.ok (C : kC R M0 q ru) : zOk ru := C.2.2.2.1
theorem kC.cr (C : kC R M0 q ru) : zCr R M0 q ru := C.2.2.2.2
theorem kC.x2 (C : kC R M0 q ru) : R 2 2 = 13 := C.xr.2.2.1
theorem kC.x3 (C : kC R M0 q ru) : R 2 3 = 18 := C.xr.2.2.2.1
theorem kC.x4 (C : kC R M0 q ru) : R 2 4 = 187 := C.xr.2.2.2.2.1
theorem kC.x5 (C : kC R M0 q ru) : R 2 5 = 194 := C.xr.2.2.2.2.2.1
theorem kC.x6 (C : kC R M0 q ru) : R 2 6 = 200 := C.xr.2.2.2.2.2.2.1
theorem kC.x7 (C : kC R M0 q ru) : R 2 7 = 207 := C.xr.2.2.2.2.2.2.2
theorem kC.rg (C : kC R M0 q ru) (h : kRg r) : zrg R r := by
  obtain ⟨k1, k2, k3, k4, k5, k6⟩ := C.kr
  obtain ⟨t1, t2, t3, t4, t5, t6, t7, t8, t9, t10, t11, t12, t13, t14, t15⟩ := C.rt
  rcases h with rfl | rfl | rfl | rfl | rfl | ⟨h1, h2, h3⟩
  · exact k6
  · exact t3
  · exact t5
  · exact t8
  · exact t15
  · obtain ⟨j, hj⟩ : ∃ j, r = 22 + 5 * j := ⟨(r - 22) / 5, by omega⟩
    subst hj
    by_cases c : j < 30
    · exact (k4 j c).2
    · have := (k5 (j - 30) (by omega)).2
      rw [show 172 + 5 * (j - 30) = 22 + 5 * j by omega] at this
      exact this
theorem kW.rf (h : ∀ r, kRg r → ∃ n, n ≤ 10 ∧ M r 4 = nI n) : kW M L M L := ⟨zag.rf, fun _ _ => rfl, h⟩
theorem kW.cr (h : kW M0 L0 M L) (C : kC R M0 q ru) : zCr R M q ru := by
  refine C.cr.eq (fun b k q1 q2 q3 => h.1 b k ?_)
  unfold kFp zsk
  rcases C.qq with rfl | rfl <;> omega
theorem kW.n (h : kW M0 L0 M L) (hr : kRg r) : ∃ n, n ≤ 10 ∧ M r 4 = nI n := h.2.2 r hr
theorem kW.rw (h : kW M0 L0 M L) (hr : kRg r) : ∃ n w, RW M r n w := by
  obtain ⟨n, hn, e⟩ := h.n hr
  refine ⟨n, fun k => if k < 10 then M (r + 1) k else if k < 20 then M (r + 2) (k - 10) else if k < 30 then M (r + 3) (k - 20) else if k < 40 then M (r + 4) (k - 30) else if k = 40 then nI n else if k = 41 then M r 5 else if k = 42 then M r 6 else M r 7, hn, e, rfl, rfl, rfl, rfl, fun h hh => ⟨?_, ?_, ?_, ?_⟩⟩
  · show _ = if h < 10 then _ else _
    rw [if_pos (by omega)]
  · show _ = if 10 + h < 10 then _ else if 10 + h < 20 then M (r + 2) (10 + h - 10) else _
    rw [if_neg (by omega), if_pos (by omega), show 10 + h - 10 = h by omega]
  · show _ = if 20 + h < 10 then _ else if 20 + h < 20 then _ else if 20 + h < 30 then M (r + 3) (20 + h - 20) else _
    rw [if_neg (by omega), if_neg (by omega), if_pos (by omega), show 20 + h - 20 = h by omega]
  · show _ = if 30 + h < 10 then _ else if 30 + h < 20 then _ else if 30 + h < 30 then _ else if 30 + h < 40 then M (r + 4) (30 + h - 30) else _
    rw [if_neg (by omega), if_neg (by omega), if_neg (by omega), if_pos (by omega), show 30 + h - 30 = h by omega]
theorem kW.ag {X : Nat → Nat → Prop} (h : kW M0 L0 M L) (g : zag X M M1) (hX : ∀ a k, X a k → kFp a k ∧ (kRg a → k ≠ 4)) : kW M0 L0 M1 L := by
  refine ⟨h.1.tr (g.mo (fun a k e => (hX a k e).1)), h.2.1, fun r hr => ?_⟩
  obtain ⟨n, hn, e⟩ := h.n hr
  exact ⟨n, hn, by rw [g r 4 (fun z => (hX r 4 z).2 hr rfl)]; exact e⟩
theorem kW.up (h : kW M0 L0 M L) {a k : Nat} {v : Int32} (ha : kFp a k) (hn : kRg a → k ≠ 4) : kW M0 L0 (zup M a k v) L :=
  h.ag (X := fun b j => b = a ∧ j = k) (zag.rf.up ⟨rfl, rfl⟩) (fun b j e => by rw [e.1, e.2]; exact ⟨ha, hn⟩)
theorem kW.cnt (h : kW M0 L0 M L) {n : Nat} (hr : kRg r) (hn : n ≤ 10) : kW M0 L0 (zup M r 4 (nI n)) L := by
  refine ⟨h.1.up hr.at, h.2.1, fun s hs => ?_⟩
  by_cases e : s = r
  · subst e
    exact ⟨n, hn, zup_same⟩
  · obtain ⟨m, hm, f⟩ := h.n hs
    exact ⟨m, hm, by rw [zup_a e]; exact f⟩
theorem kW.upL (h : kW M0 L0 M L) {a k : Nat} {v : Int64} (h1 : 13 ≤ a) (h2 : a < 242) : kW M0 L0 M (zupL L a k v) := by
  refine ⟨h.1, fun b hb => ?_, h.2.2⟩
  rw [← h.2.1 b hb]
  funext j
  unfold zupL
  rw [if_neg (by omega)]
/-- a ring's own cells but its count -/
theorem kW.rup (h : kW M0 L0 M L) (hr : kRg r) {a k : Nat} {v : Int32} (h1 : r ≤ a) (h2 : a < r + 5) (h3 : a = r → k ≠ 4) : kW M0 L0 (zup M a k v) L := by
  by_cases e : a = r
  · subst e
    exact h.up hr.at (fun _ => h3 rfl)
  · obtain ⟨p1, p2⟩ := hr.in_ (a := a) (by omega) h2
    exact h.up (p2 k) (fun z => absurd z p1)
theorem kW.rupL (h : kW M0 L0 M L) (hr : kRg r) {k : Nat} {v : Int64} : kW M0 L0 M (zupL L (r + 4) k v) := by
  have := hr.lt
  exact h.upL (by omega) (by omega)
theorem has_w (M : zM) (r : Nat) (x : Int32) : zT (f_X6_has M r x) (fun b => b ≠ 0 → ∃ k, k < 10 ∧ x = nI k ∧ ¬ M r 4 ≤ x) := by
  unfold f_X6_has
  refine zT_if (fun _ => zT_some (fun z => absurd rfl z)) (fun h0 => zT_if (fun _ => zT_some (fun z => absurd rfl z)) (fun h1 => zT_if (fun _ => zT_some (fun z => absurd rfl z)) (fun h2 => zT_some (fun _ => ?_))))
  rcases nI_cases x 10 (by omega) with ⟨k, hk, e⟩ | h | h
  · exact ⟨k, hk, e, h1⟩
  · exact absurd h h0
  · exact absurd h h2
/-- an index that was looked at -/
theorem zin_g {x : Int32} {n : Nat} (h0 : ¬ x < 0) (h1 : ¬ nI n ≤ x) (hn : n < 2147483648) (h2 : 0 < n) : zin x n = true := by
  rcases nI_cases x n hn with ⟨k, hk, rfl⟩ | h | h
  · exact zin_nI hk hn
  · exact absurd h h0
  · exact absurd h h1
theorem purse_w (R : zR) (M : zM) (r : Nat) (x : Int32) : zT (f_X6_purseOf R M r x) (fun _ => True) := by
  unfold f_X6_purseOf
  refine zT_bd (zT_w (has_w M r x) (fun b hb => zT_if (fun _ => zT_some trivial) (fun h => ?_)))
  obtain ⟨k, hk, rfl, _⟩ := hb h
  exact zT_ck (zin_nI hk (by omega)) (zT_some trivial)
theorem paid_w (R : zR) (M : zM) (r : Nat) (x : Int32) : zT (f_X6_paidBy R M r x) (fun _ => True) := by
  unfold f_X6_paidBy
  refine zT_bd (zT_w (has_w M r x) (fun b hb => zT_if (fun _ => zT_some trivial) (fun h => ?_)))
  obtain ⟨k, hk, rfl, _⟩ := hb h
  exact zT_ck (zin_nI hk (by omega)) (zT_some trivial)
theorem shown_w (R : zR) (M : zM) (r : Nat) (x : Int32) : zT (f_X6_shown R M r x) (fun _ => True) := by
  unfold f_X6_shown
  refine zT_if (fun _ => zT_some trivial) (fun h0 => zT_if (fun _ => zT_some trivial) (fun _ => zT_if (fun h1 => ?_) (fun _ => zT_some trivial)))
  have h2 : zin x 10 = true := zin_g h0 (fun z => Int32.lt_irrefl (Int32.lt_of_lt_of_le h1 z)) (by omega) (by omega)
  exact zT_ck h2 (zT_ck h2 (zT_some trivial))
theorem full_w (M : zM) (r : Nat) : zT (f_X6_isFull M r) (fun b => b = 0 → M r 4 < 10) := by
  unfold f_X6_isFull
  exact zT_if (fun h => zT_some (fun _ => h)) (fun _ => zT_some (fun z => absurd z (by decide)))
theorem spread_w (R : zR) (M : zM) (r : Nat) : zT (f_X6_spread R M r) (fun _ => True) := by
  unfold f_X6_spread
  refine zT_bd (zT_w (has_w M r 0) (fun b hb => zT_if (fun _ => zT_some trivial) (fun h => ?_)))
  refine zT_bd (zT_w (Q := fun _ => True) ?_ (fun _ _ => zT_some trivial))
  refine zT_for 9 (fun k v => v.2.2 = nI (k + 1)) rfl (by omega) ?_ ?_
  · rintro k ⟨x1, x2, x3⟩ hk e
    dsimp only at e ⊢
    subst e
    unfold b_X6_spread_26
    refine zT_if0 (by rw [nI_lit 10]; exact nI_ge (by omega) (by omega)) (zT_bd (zT_w (has_w M r _) (fun b hb => zT_if (fun _ => zT_some trivial) (fun _ => ?_))))
    exact zT_ck (zin_nI (by omega) (by omega)) (zT_ck (zin_nI (by omega) (by omega)) (zT_some (nI_1 (k + 1))))
  · rintro ⟨x1, x2, x3⟩ e
    dsimp only at e ⊢
    subst e
    unfold b_X6_spread_26
    exact zT_if1 (by decide) (zT_some trivial)
theorem total_w (R : zR) (M : zM) (r : Nat) : zT (f_X6_total R M r) (fun _ => True) := by
  unfold f_X6_total
  refine zT_bd (zT_w (Q := fun _ => True) ?_ (fun _ _ => zT_some trivial))
  refine zT_for 10 (fun k v => v.2 = nI k) rfl (by omega) ?_ ?_
  · rintro k ⟨x1, x2⟩ hk e
    dsimp only at e ⊢
    subst e
    unfold b_X6_total_4
    refine zT_if0 (by rw [nI_lit 10]; exact nI_ge (by omega) (by omega)) (zT_bd (zT_w (has_w M r _) (fun b hb => zT_if (fun _ => zT_some trivial) (fun _ => ?_))))
    exact zT_ck (zin_nI (by omega) (by omega)) (zT_some (nI_1 k))
  · rintro ⟨x1, x2⟩ e
    dsimp only at e ⊢
    subst e
    unfold b_X6_total_4
    exact zT_if1 (by decide) (zT_some trivial)
theorem earn_w (C : kC R M0 q ru) (hr : kRg r) (h : kW M0 L0 M L) (x y : Int32) : zT (f_X6_earn R M r x y) (fun M1 => kW M0 L0 M1 L) := by
  unfold f_X6_earn
  obtain ⟨e0, e1, e2, e3⟩ := C.rg hr
  refine zT_bd (zT_w (has_w M r x) (fun b hb => zT_if (fun _ => zT_some h) (fun hh => ?_)))
  obtain ⟨k, hk, rfl, _⟩ := hb hh
  rw [e0]
  exact zT_ck (zin_nI hk (by omega)) (zT_ck (zin_nI hk (by omega)) (zT_lt (zT_some (h.rup hr (by omega) (by omega) (by omega)))))
theorem move_w (C : kC R M0 q ru) (hr : kRg r) (h : kW M0 L0 M L) (x y z : Int32) : zT (f_X6_move R M r x y z) (fun M1 => kW M0 L0 M1 L) := by
  unfold f_X6_move
  obtain ⟨e0, e1, e2, e3⟩ := C.rg hr
  refine zT_bd (zT_w (has_w M r x) (fun b hb => zT_if (fun _ => zT_some h) (fun hh => ?_)))
  obtain ⟨k, hk, rfl, _⟩ := hb hh
  refine zT_bd (zT_w (has_w M r y) (fun b2 hb2 => zT_if (fun _ => zT_some h) (fun hh2 => ?_)))
  obtain ⟨j, hj, rfl, _⟩ := hb2 hh2
  rw [e0]
  exact zT_ck (zin_nI hk (by omega)) (zT_ck (zin_nI hk (by omega)) (zT_lt (zT_ck (zin_nI hj (by omega)) (zT_ck (zin_nI hj (by omega)) (zT_lt (zT_some ((h.rup hr (by omega) (by omega) (by omega)).rup hr (by omega) (by omega) (by omega))))))))
theorem pay_w (C : kC R M0 q ru) (hr : kRg r) (h : kW M0 L0 M L) (x y : Int32) : zT (n_X6_pay R M L r x y) (fun p => kW M0 L0 p.1 p.2) := by
  unfold n_X6_pay
  obtain ⟨e0, e1, e2, e3⟩ := C.rg hr
  refine zT_bd (zT_w (has_w M r x) (fun b hb => zT_if (fun _ => zT_some h) (fun hh => ?_)))
  obtain ⟨k, hk, rfl, _⟩ := hb hh
  rw [e0, e2, e3]
  have hz := zin_nI (k := k) (n := 10) hk (by omega)
  refine zT_ck hz (zT_ck hz (zT_lt (zT_lt (zT_ck hz (zT_lt (zT_ck hz (zT_ck hz (zT_lt (zT_some ?_)))))))))
  exact (((h.rup hr (by omega) (by omega) (by omega)).rup hr (by omega) (by omega) (by omega)).rup hr (by omega) (by omega) (by omega)).rupL hr
/-- it keeps the count -/
theorem copyHouse_w4 (C : kC R M0 q ru) (hr : kRg r) (h : kW M0 L0 M L) (x y : Int32) : zT (n_X6_copyHouse R M L r x y) (fun p => kW M0 L0 p.1 p.2 ∧ p.1 r 4 = M r 4) := by
  unfold n_X6_copyHouse
  obtain ⟨e0, e1, e2, e3⟩ := C.rg hr
  refine zT_if (fun _ => zT_some ⟨h, rfl⟩) (fun a1 => zT_if (fun _ => zT_some ⟨h, rfl⟩) (fun a2 => zT_if (fun _ => zT_some ⟨h, rfl⟩) (fun b1 => zT_if (fun b2 => ?_) (fun _ => zT_some ⟨h, rfl⟩))))
  have hx : zin x 10 = true := zin_g a1 a2 (by omega) (by omega)
  have hy : zin y 10 = true := zin_g b1 (fun z => Int32.lt_irrefl (Int32.lt_of_lt_of_le b2 z)) (by omega) (by omega)
  rw [e0, e1, e2, e3]
  refine zT_ck hx (zT_ck hy (zT_lt (zT_ck hx (zT_ck hy (zT_lt (zT_ck hx (zT_ck hy (zT_lt (zT_ck hx (zT_ck hy (zT_lt (zT_some ⟨?_, ?_⟩))))))))))))
  · exact (((h.rup hr (by omega) (by omega) (by omega)).rup hr (by omega) (by omega) (by omega)).rup hr (by omega) (by omega) (by omega)).rupL hr
  · dsimp only
    rw [zup_a (by omega), zup_a (by omega), zup_a (by omega)]
/-- a ring copied -/
theorem copy_w (C : kC R M0 q ru) {s : Nat} (hr : kRg r) (hs : kRg s) (h : kW M0 L0 M L) : zT (n_X6_copy R M L r s) (fun p => kW M0 L0 p.1 p.2) := by
  unfold n_X6_copy
  obtain ⟨e0, e1, e2, e3⟩ := C.rg hr
  obtain ⟨n, hn, e4⟩ := h.n hs
  rw [e4]
  have h1 := h.cnt hr hn
  generalize zup M r 4 (nI n) = M1 at h1 ⊢
  refine zT_lt (zT_lt (zT_lt (zT_lt (zT_bd (zT_w (Q := fun p => kW M0 L0 p.1 p.2) ?_ (fun _ hp => zT_some hp))))))
  have h4 := ((h1.rup (k := 5) (v := M1 s 5) hr (Nat.le_refl _) (by omega) (by omega)).rup (k := 6) (v := zup M1 r 5 (M1 s 5) s 6) hr (Nat.le_refl _) (by omega) (by omega)).rup (k := 7) (v := zup (zup M1 r 5 (M1 s 5)) r 6 (zup M1 r 5 (M1 s 5) s 6) s 7) hr (Nat.le_refl _) (by omega) (by omega)
  refine zT_for 10 (fun k v => v.1 = nI k ∧ kW M0 L0 v.2.1 v.2.2) ⟨rfl, h4⟩ (by omega) ?_ ?_
  · rintro k ⟨x, M2, L2⟩ hk ⟨rfl, g⟩
    dsimp only at g ⊢
    unfold nb_X6_copy_34
    rw [e0, e1, e2, e3]
    have hz := zin_nI (k := k) (n := 10) hk (by omega)
    refine zT_if (fun _ => zT_some g) (fun _ => zT_if0 (by rw [nI_lit 10]; exact nI_ge hk (by omega)) (zT_ck hz (zT_ck hz (zT_lt (zT_ck hz (zT_ck hz (zT_lt (zT_ck hz (zT_ck hz (zT_lt (zT_ck hz (zT_ck hz (zT_lt (zT_some ⟨nI_1 k, ?_⟩))))))))))))))
    exact (((g.rup hr (by omega) (by omega) (by omega)).rup hr (by omega) (by omega) (by omega)).rup hr (by omega) (by omega) (by omega)).rupL hr
  · rintro ⟨x, M2, L2⟩ ⟨rfl, g⟩
    dsimp only at g ⊢
    unfold nb_X6_copy_34
    exact zT_if (fun _ => zT_some g) (fun _ => zT_if1 (by decide) (zT_some g))
theorem most_w (R : zR) (M : zM) (L : zL) (r : Nat) : zT (n_X6_mostPaying R M L r) (fun _ => True) := by
  unfold n_X6_mostPaying
  refine zT_bd (zT_w (Q := fun _ => True) ?_ (fun _ _ => zT_some trivial))
  refine zT_for 9 (fun k v => v.2 = nI (k + 1) ∧ ∃ j, j < 10 ∧ v.1 = nI j) ⟨rfl, 0, by omega, rfl⟩ (by omega) ?_ ?_
  · rintro k ⟨x1, x2⟩ hk ⟨e, j, hj, e2⟩
    dsimp only at e e2 ⊢
    subst e
    subst e2
    unfold nb_X6_mostPaying_4
    refine zT_if0 (by rw [nI_lit 10]; exact nI_ge (by omega) (by omega)) (zT_bd (zT_w (has_w M r _) (fun b hb => zT_if (fun _ => zT_some trivial) (fun _ => ?_))))
    refine zT_ck (zin_nI (by omega) (by omega)) (zT_ck (zin_nI hj (by omega)) (zT_if (fun _ => zT_some ⟨nI_1 (k + 1), j, hj, rfl⟩) (fun _ => zT_some ⟨nI_1 (k + 1), k + 1, by omega, rfl⟩)))
  · rintro ⟨x1, x2⟩ ⟨e, -⟩
    dsimp only at e ⊢
    subst e
    unfold nb_X6_mostPaying_4
    exact zT_if1 (by decide) (zT_some trivial)
theorem zero_w (C : kC R M0 q ru) (hr : kRg r) (h : kW M0 L0 M L) : zT (zloop zN (fun v => nb_X6_sharePot_108 R M v.2 r v.1) ((0 : Int32), L)) (fun L1 => kW M0 L0 M L1) := by
  obtain ⟨e0, e1, e2, e3⟩ := C.rg hr
  refine zT_for 10 (fun k v => v.1 = nI k ∧ kW M0 L0 M v.2) ⟨rfl, h⟩ (by omega) ?_ ?_
  · rintro k ⟨x, L2⟩ hk ⟨rfl, g⟩
    dsimp only at g ⊢
    unfold nb_X6_sharePot_108
    rw [e3]
    exact zT_if0 (by rw [nI_lit 10]; exact nI_ge hk (by omega)) (zT_bd (zT_w (has_w M r _) (fun b hb => zT_if (fun _ => zT_some g) (fun _ => zT_ck (zin_nI hk (by omega)) (zT_lt (zT_some ⟨nI_1 k, g.rupL hr⟩))))))
  · rintro ⟨x, L2⟩ ⟨rfl, g⟩
    dsimp only at g ⊢
    unfold nb_X6_sharePot_108
    exact zT_if1 (by decide) (zT_some g)
theorem share94_w (C : kC R M0 q ru) (hr : kRg r) (h : kW M0 L0 M L) (x : Int32) : zT (nj_X6_sharePot_94 R M L r r x) (fun p => kW M0 L0 p.1 p.2) := by
  unfold nj_X6_sharePot_94
  refine zT_bd (zT_w (earn_w C hr h _ _) (fun M1 h1 => zT_lt ?_))
  have h2 := h1.rup (k := 5) (v := 0) hr (Nat.le_refl _) (by omega) (by omega)
  generalize zup M1 r 5 0 = M2 at h2 ⊢
  exact zT_bd (zT_w (zero_w C hr h2) (fun L1 h3 => zT_lt (zT_some (h3.rup hr (Nat.le_refl _) (by omega) (by omega)))))
theorem znz_w {x : Int32} (h : 0 < x) : znz x = true := by
  unfold znz
  have : x ≠ 0 := fun e => by rw [e] at h; exact Int32.lt_irrefl h
  simp [this]
theorem share_w (C : kC R M0 q ru) (hr : kRg r) (h : kW M0 L0 M L) (x : Int32) : zT (n_X6_sharePot R M L r x) (fun p => kW M0 L0 p.1 p.2) := by
  unfold n_X6_sharePot
  obtain ⟨e0, e1, e2, e3⟩ := C.rg hr
  refine zT_if (fun h0 => zT_if (fun _ => ?_) (fun _ => zT_if (fun _ => ?_) (fun _ => zT_ck (znz_w h0) (share94_w C hr h _)))) (fun _ => zT_some h)
  · refine zT_ck (znz_w h0) (zT_bd (zT_w (Q := fun M1 => kW M0 L0 M1 L) ?_ (fun M1 h1 => zT_lt ?_)))
    · refine zT_for 10 (fun k v => v.1 = nI k ∧ kW M0 L0 v.2 L) ⟨rfl, h⟩ (by omega) ?_ ?_
      · rintro k ⟨y, M2⟩ hk ⟨rfl, g⟩
        dsimp only at g ⊢
        unfold nb_X6_sharePot_24
        rw [e0]
        have hz := zin_nI (k := k) (n := 10) hk (by omega)
        exact zT_if0 (by rw [nI_lit 10]; exact nI_ge hk (by omega)) (zT_bd (zT_w (has_w M2 r _) (fun b hb => zT_if (fun _ => zT_some g) (fun _ => zT_ck hz (zT_ck hz (zT_lt (zT_some ⟨nI_1 k, g.rup hr (by omega) (by omega) (by omega)⟩)))))))
      · rintro ⟨y, M2⟩ ⟨rfl, g⟩
        dsimp only at g ⊢
        unfold nb_X6_sharePot_24
        exact zT_if1 (by decide) (zT_some g)
    · have h2 := h1.rup (k := 5) (v := M1 r 5 - M r 5 / M r 4 * M1 r 4) hr (Nat.le_refl _) (by omega) (by omega)
      generalize zup M1 r 5 (M1 r 5 - M r 5 / M r 4 * M1 r 4) = M2 at h2 ⊢
      exact zT_bd (zT_w (zero_w C hr h2) (fun L1 h3 => zT_lt (zT_some (h3.rup hr (Nat.le_refl _) (by omega) (by omega)))))
  · exact zT_bd (zT_w (most_w R M L r) (fun y _ => share94_w C hr h y))
theorem insert_w (C : kC R M0 q ru) (hr : kRg r) (h : kW M0 L0 M L) (x y : Int32) : zT (n_X6_insert R M L r x y) (fun p => kW M0 L0 p.1 p.2) := by
  unfold n_X6_insert
  obtain ⟨e0, e1, e2, e3⟩ := C.rg hr
  obtain ⟨n, hn, e4⟩ := h.n hr
  refine zT_if (fun _ => zT_some h) (fun h0 => zT_if (fun _ => zT_some h) (fun h1 => zT_bd (zT_w (full_w M r) (fun b hb => zT_if (fun hb0 => ?_) (fun _ => zT_some h)))))
  have hf := hb hb0
  rw [e4] at h1 hf
  have hn9 : n < 10 := by
    rcases Nat.lt_or_ge n 10 with z | z
    · exact z
    · have : n = 10 := by omega
      subst this
      exact absurd hf (Int32.lt_irrefl)
  obtain ⟨a, ha, rfl⟩ := nI_upto (x := x) (e := n) h0 (Int32.not_lt.1 h1) (by omega)
  have hz := zin_nI (k := a) (n := 10) (by omega) (by omega)
  rw [e4]
  refine zT_bd (zT_w (Q := fun p => kW M0 L0 p.1 p.2 ∧ p.1 r 4 = nI n) ?_ ?_)
  · refine zT_loop (fun k v => v.1 = nI (a + k) ∧ a + k < 10 ∧ kW M0 L0 v.2.1 v.2.2 ∧ v.2.1 r 4 = nI n) (n - a) ⟨by show nI n = nI (a + (n - a)); rw [show a + (n - a) = n by omega], by omega, h, e4⟩ (by omega) ?_
    rintro k ⟨z, M2, L2⟩ ⟨e, hk, g, g4⟩
    dsimp only at e g g4 ⊢
    subst e
    unfold nb_X6_insert_25
    refine zT_if (fun _ => zT_some ⟨g, g4⟩) (fun hc => ?_)
    have hk0 : 0 < k := by
      rcases Nat.eq_zero_or_pos k with z | z
      · subst z
        exact absurd (Int32.le_refl _) hc
      · exact z
    refine zT_bd2 (zT_w (copyHouse_w4 C hr g _ _) ?_)
    rintro ⟨M3, L3⟩ ⟨g3, f3⟩
    refine zT_some ⟨k - 1, by omega, ?_, by omega, g3, by rw [f3]; exact g4⟩
    show nI (a + k) + -1 = nI (a + (k - 1))
    rw [nI_dec (by omega), show a + k - 1 = a + (k - 1) by omega]
  · rintro ⟨M2, L2⟩ ⟨g, g4⟩
    dsimp only at g g4 ⊢
    rw [g4, nI_1]
    refine zT_lt ?_
    have h2 := g.cnt (n := n + 1) hr (by omega)
    generalize zup M2 r 4 (nI (n + 1)) = M3 at h2 ⊢
    rw [e0, e1, e2, e3]
    refine zT_ck hz (zT_lt (zT_ck hz (zT_lt (zT_ck hz (zT_lt (zT_ck hz (zT_lt (zT_some ?_))))))))
    exact (((h2.rup hr (by omega) (by omega) (by omega)).rup hr (by omega) (by omega) (by omega)).rup hr (by omega) (by omega) (by omega)).rupL hr
end KW

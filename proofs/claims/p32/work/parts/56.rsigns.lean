/-! READ, on the reference's side: tokens, steps, signs that wait -/
def tkR (M : zM) (K V P : Nat → Int32) (c : Nat) : Prop := c ≤ 400 ∧ ∀ i, i ≤ c → M 245 i = K i ∧ M 246 i = P i ∧ (K i = 2 → M 247 i = V i)
theorem tkR.eq {M M1 : zM} {K V P : Nat → Int32} {c : Nat} (h : tkR M K V P c) (he : ∀ b i, 245 ≤ b → b ≤ 247 → M1 b i = M b i) : tkR M1 K V P c := by
  refine ⟨h.1, fun i hi => ?_⟩
  rw [he 245 i (by omega) (by omega), he 246 i (by omega) (by omega), he 247 i (by omega) (by omega)]
  exact h.2 i hi
def FR (P : Nat → Int32) (f : tF) (M : zM) : Prop := (f.1 = 1 ∨ f.1 = 2) ∧ M 242 13 = nI f.1 ∧ M 242 14 = P f.2
def AR (t : Nat) (M : zM) : Prop := M 242 11 = nI t ∧ M 242 13 = 0
theorem FR.ne {P : Nat → Int32} {f : tF} {M : zM} (h : FR P f M) : ¬ M 242 13 = 0 ∧ ¬ M 242 13 ≤ 0 ∧ 0 < M 242 13 := by
  rw [h.2.1]
  rcases h.1 with e | e <;> rw [e] <;> decide
theorem FR.eq {P : Nat → Int32} {f : tF} {M M1 : zM} (h : FR P f M) (e6 : M1 242 13 = M 242 13) (e7 : M1 242 14 = M 242 14) : FR P f M1 := ⟨h.1, by rw [e6]; exact h.2.1, by rw [e7]; exact h.2.2⟩
def tgA : Nat → Nat → Prop := fun b k => b = 242 ∧ (k = 11 ∨ k = 13 ∨ k = 14)
section REF
variable {R : zR} {M : zM} {K V P : Nat → Int32} {c t : Nat} {f : tF}
theorem X12_is (hR : zMd R) (hk : tkR M K V P c) (ha : AR t M) (ht : t ≤ c) (x : Int32) : f_X12_is R M 242 x = some (if K t = x then 1 else 0) := by
  have c4 := hk.1
  unfold f_X12_is zck
  rw [if_pos ha.2, hR.at (k := 5) (b := 245) rfl (by decide), ha.1, if_pos (zin_nI (by omega) (by omega)), ztn_nI (by omega), (hk.2 t ht).1]
  split <;> rfl
theorem X12_isD (h : FR P f M) (x : Int32) : f_X12_is R M 242 x = some 0 := by
  unfold f_X12_is
  rw [if_neg h.ne.1]
theorem X12_failD (h : FR P f M) (x : Int32) : f_X12_fail R M 242 x = some M := by
  unfold f_X12_fail
  rw [if_neg h.ne.2.1]
theorem X12_fail (hR : zMd R) (hk : tkR M K V P c) (ha : AR t M) (ht : t ≤ c) {k : Nat} (hk2 : k = 1 ∨ k = 2) : zT (f_X12_fail R M 242 (nI k)) (fun M1 => FR P (k, t) M1 ∧ zag (fun b j => b = 242 ∧ (j = 13 ∨ j = 14)) M M1) := by
  have c4 := hk.1
  unfold f_X12_fail
  have e11 : zup M 242 13 (nI k) 242 11 = nI t := by rw [zup_k (by omega)]; exact ha.1
  refine zT_if1 (by rw [ha.2]; decide) (zT_lt ?_)
  rw [e11, hR.at (k := 6) (b := 246) rfl (by decide)]
  refine zT_ck (zin_nI (by omega) (by omega)) (zT_lt (zT_some ⟨⟨hk2, ?_, ?_⟩, (zag.rf.up (by omega)).up (by omega)⟩))
  · rw [zup_k (by omega), zup_same]
  · rw [zup_same, zup_a (by omega), ztn_nI (by omega)]
    exact (hk.2 t ht).2.1
theorem X12_goD (h : FR P f M) : zT (f_X12_goesOn R M 242) (fun M1 => FR P f M1 ∧ zag (fun b j => b = 242 ∧ j = 11) M M1) := by
  unfold f_X12_goesOn
  refine zT_if (fun _ => zT_bd (zT_eq (X12_failD h 2) (zT_some ⟨h, zag.rf⟩))) (fun _ => zT_lt (zT_some ⟨h.eq (zup_k (by omega)) (zup_k (by omega)), zag.rf.up (by omega)⟩))
theorem X12_go (hR : zMd R) (hk : tkR M K V P c) (ha : AR t M) (ht : t ≤ c) : zT (f_X12_goesOn R M 242) (fun M1 => (match goS t with | .inl f => FR P f M1 | .inr t1 => AR t1 M1) ∧ zag tgA M M1) := by
  have c4 := hk.1
  unfold f_X12_goesOn goS
  rw [ha.1]
  by_cases q : t = 400
  · rw [if_pos q]
    refine zT_if1 (by rw [q]; rfl) (zT_bd (zT_w (X12_fail hR hk ha ht (Or.inr rfl)) ?_))
    rintro M1 ⟨h1, g⟩
    exact zT_some ⟨h1, g.mo (fun b j w => ⟨w.1, by omega⟩)⟩
  · rw [if_neg q]
    refine zT_if0 (fun z => q (nI_inj (by omega) (by omega) (z.trans (nI_lit 400)))) (zT_lt (zT_some ⟨⟨?_, ?_⟩, zag.rf.up ⟨rfl, by omega⟩⟩))
    · rw [zup_same, nI_1]
    · rw [zup_k (by omega)]
      exact ha.2
theorem X12_mustD (h : FR P f M) (x : Int32) : f_X12_must R M 242 x = some M := by
  unfold f_X12_must zbd
  rw [X12_isD h]
  show (if (0 : Int32) = 0 then _ else _) = _
  rw [if_pos rfl, X12_failD h]
theorem X12_must (hR : zMd R) (hk : tkR M K V P c) (ha : AR t M) (ht : t ≤ c) (d : Int32) : zT (f_X12_must R M 242 d) (fun M1 => (match mustS K d t with | .inl f => FR P f M1 | .inr t1 => AR t1 M1) ∧ zag tgA M M1) := by
  unfold f_X12_must mustS
  refine zT_bd (zT_eq (X12_is hR hk ha ht d) ?_)
  by_cases q : K t = d
  · rw [if_pos q, if_pos q]
    refine zT_if0 (by decide) (zT_bd (zT_w (X12_go hR hk ha ht) fun M1 h => zT_some h))
  · rw [if_neg q, if_neg q]
    refine zT_if1 rfl (zT_bd (zT_w (X12_fail hR hk ha ht (Or.inl rfl)) ?_))
    rintro M1 ⟨h1, g⟩
    exact zT_some ⟨h1, g.mo (fun b j w => ⟨w.1, by omega⟩)⟩
/-- one step -/
def emA (p : Nat) : Nat → Nat → Prop := fun b k => (b = 265 ∧ k = p) ∨ (b = 266 ∧ k = p) ∨ (b = 242 ∧ k = 37)
theorem X12_emit (hR : zMd R) {p : Nat} (hp : p < 840) (h37 : M 242 37 = nI p) (k x : Int32) : zT (f_X12_emit R M 242 k x) (fun M1 => M1 242 37 = nI (p + 1) ∧ M1 265 p = k ∧ M1 266 p = x ∧ zag (emA p) M M1) := by
  unfold f_X12_emit
  rw [hR.at (k := 38) (b := 265) rfl (by decide), hR.at (k := 39) (b := 266) rfl (by decide), h37, ztn_nI (by omega)]
  have e1 : zup M 265 p k 242 37 = nI p := by rw [zup_a (by omega)]; exact h37
  refine zT_ck (zin_nI hp (by omega)) (zT_lt ?_)
  rw [e1, ztn_nI (by omega)]
  have e2 : zup (zup M 265 p k) 266 p x 242 37 = nI p := by rw [zup_a (by omega)]; exact e1
  refine zT_ck (zin_nI hp (by omega)) (zT_lt (zT_lt ?_))
  rw [e2, nI_1]
  refine zT_some ⟨zup_same, ?_, ?_, ((zag.rf.up (by unfold emA; omega)).up (by unfold emA; omega)).up (by unfold emA; omega)⟩
  · rw [zup_a (by omega), zup_a (by omega), zup_same]
  · rw [zup_a (by omega), zup_same]
/-- signs that wait come out -/
def coA (p e : Nat) : Nat → Nat → Prop := fun b k => ((b = 265 ∨ b = 266) ∧ p ≤ k ∧ k < e) ∨ (b = 242 ∧ (k = 37 ∨ k = 41))
theorem X12_outT (hR : zMd R) {w p : Nat} (hw : w ≤ 30) (h41 : M 242 41 = nI w) (h37 : M 242 37 = nI p) (hp : p + w ≤ 840) (lb : Int32) : zT (f_X12_comesOut R M 242 lb) (fun M1 => zag (coA p (p + w)) M M1 ∧ ∃ w1 p1, w1 ≤ w ∧ M1 242 41 = nI w1 ∧ M1 242 37 = nI p1 ∧ p1 + w1 = p + w) := by
  unfold f_X12_comesOut
  refine zT_bd (zT_loop (fun m v => ∃ w1 p1, m = w1 ∧ w1 ≤ w ∧ v 242 41 = nI w1 ∧ v 242 37 = nI p1 ∧ p1 + w1 = p + w ∧ zag (coA p (p + w)) M v) w ⟨w, p, rfl, Nat.le_refl _, h41, h37, rfl, zag.rf⟩ (by omega) ?_)
  rintro m M1 ⟨w1, p1, rfl, hw1, e41, e37, he, g⟩
  have fin : zag (coA p (p + w)) M M1 ∧ ∃ w1 p1, w1 ≤ w ∧ M1 242 41 = nI w1 ∧ M1 242 37 = nI p1 ∧ p1 + w1 = p + w := ⟨g, _, p1, hw1, e41, e37, he⟩
  unfold b_X12_comesOut_0
  rw [e41]
  by_cases w0 : m = 0
  · exact zT_if1 (by rw [w0]; decide) (zT_some (zT_some fin))
  · refine zT_if0 (nI_np (by omega) (by omega)) ?_
    rw [nI_sub1 (by omega), hR.at (k := 40) (b := 267) rfl (by decide)]
    refine zT_ck (zin_nI (by omega) (by omega)) ?_
    have J : ∀ y, zT (j_X12_comesOut_42 R M1 242 lb y) (Sum.elim (fun v1 => ∃ k1, k1 < m ∧ ∃ w1 p1, k1 = w1 ∧ w1 ≤ w ∧ v1 242 41 = nI w1 ∧ v1 242 37 = nI p1 ∧ p1 + w1 = p + w ∧ zag (coA p (p + w)) M v1) (fun e13 => zT (Sum.elim (fun e14 => some e14) (fun e15 => some e15) e13) (fun M1 => zag (coA p (p + w)) M M1 ∧ ∃ w1 p1, w1 ≤ w ∧ M1 242 41 = nI w1 ∧ M1 242 37 = nI p1 ∧ p1 + w1 = p + w))) := fun y => by
      unfold j_X12_comesOut_42 j_X12_comesOut_84
      rw [e41, nI_sub1 (by omega)]
      have e2 : zup M1 242 41 (nI (m - 1)) 242 37 = nI p1 := by rw [zup_k (by omega)]; exact e37
      have J2 : ∀ k, zT (zbd (f_X12_emit R (zup M1 242 41 (nI (m - 1))) 242 k 0) fun M9 => some (Sum.inl M9)) (Sum.elim (fun v1 => ∃ k1, k1 < m ∧ ∃ w1 p1, k1 = w1 ∧ w1 ≤ w ∧ v1 242 41 = nI w1 ∧ v1 242 37 = nI p1 ∧ p1 + w1 = p + w ∧ zag (coA p (p + w)) M v1) (fun e13 => zT (Sum.elim (fun e14 => some e14) (fun e15 => some e15) e13) (fun M1 => zag (coA p (p + w)) M M1 ∧ ∃ w1 p1, w1 ≤ w ∧ M1 242 41 = nI w1 ∧ M1 242 37 = nI p1 ∧ p1 + w1 = p + w))) := fun k => by
        refine zT_bd (zT_w (X12_emit hR (by omega) e2 k 0) ?_)
        rintro M2 ⟨b1, b2, b3, g2⟩
        exact zT_some ⟨m - 1, by omega, m - 1, p1 + 1, rfl, by omega, by rw [g2 242 41 (by unfold emA; omega), zup_same], b1, by omega, (g.up (by unfold coA; omega)).tr (g2.mo (fun b j q => by unfold emA at q; unfold coA; omega))⟩
      exact zT_lt (zT_if (fun _ => J2 2) (fun _ => zT_if (fun _ => J2 3) (fun _ => zT_if (fun _ => J2 4) (fun _ => J2 5))))
    exact zT_if (fun _ => zT_some (zT_some fin)) (fun _ => zT_if (fun _ => J _) (fun _ => zT_if (fun _ => zT_some (zT_some fin)) (fun _ => zT_if (fun _ => zT_some (zT_some fin)) (fun _ => J _))))
theorem zCd.snoc {M M1 : zM} {p : Nat} {e : zEx} {k x : Int32} (h : zCd M p e) (he : ∀ a i, 265 ≤ a → a ≤ 266 → p ≤ i → i < p + e.length → M1 a i = M a i) (hk : M1 265 (p + e.length) = k) (hx : M1 266 (p + e.length) = x) : zCd M1 p (e ++ [(k, x)]) := (zCd.app _ _ _).2 ⟨zCd.eqr _ _ he h, hk, hx, trivial⟩
theorem X12_out (hR : zMd R) {p0 : Nat} {lb : Nat} (hlb : lb = 0 ∨ lb = 1) {stk : List Int32} {out : zEx} (hop : ∀ w, w ∈ stk → w = 6 ∨ w = 8 ∨ w = 9 ∨ w = 10 ∨ w = 15) (h41 : M 242 41 = nI stk.length) (hl : stk.length ≤ 20) (hS : zStk M 267 stk) (h37 : M 242 37 = nI (p0 + out.length)) (hb : p0 + out.length + opsN stk ≤ 840) (hz : zCd M p0 out) :
    zT (f_X12_comesOut R M 242 (nI lb)) (fun M1 => M1 242 41 = nI (popS (lb + 1) stk).2.length ∧ M1 242 37 = nI (p0 + (out ++ (popS (lb + 1) stk).1).length) ∧ zCd M1 p0 (out ++ (popS (lb + 1) stk).1) ∧ zag (coA (p0 + out.length) (p0 + out.length + opsN stk)) M M1) := by
  obtain ⟨ans, hA⟩ : ∃ ans, out ++ (popS (lb + 1) stk).1 = ans := ⟨_, rfl⟩
  obtain ⟨fin, hF⟩ : ∃ fin, (popS (lb + 1) stk).2 = fin := ⟨_, rfl⟩
  obtain ⟨e, hE⟩ : ∃ e, p0 + out.length + opsN stk = e := ⟨_, rfl⟩
  rw [hA, hF, hE]
  unfold f_X12_comesOut
  refine zT_bd (zT_loop (fun m v => ∃ (st : List Int32) (o : zEx), m = st.length ∧ (∀ w, w ∈ st → w = 6 ∨ w = 8 ∨ w = 9 ∨ w = 10 ∨ w = 15) ∧ st.length ≤ 20 ∧ v 242 41 = nI st.length ∧ zStk v 267 st ∧ v 242 37 = nI (p0 + o.length) ∧ out.length ≤ o.length ∧ p0 + o.length + opsN st = e ∧ zCd v p0 o ∧ zag (coA (p0 + out.length) e) M v ∧ o ++ (popS (lb + 1) st).1 = ans ∧ (popS (lb + 1) st).2 = fin) stk.length ⟨stk, out, rfl, hop, hl, h41, hS, h37, Nat.le_refl _, hE, hz, zag.rf, hA, hF⟩ (by omega) ?_)
  rintro m M1 ⟨st, o, rfl, o1, l1, e41, S1, e37, lo, b1, z1, g1, A1, F1⟩
  unfold b_X12_comesOut_0
  cases st with
  | nil =>
    refine zT_if1 (by rw [e41]; decide) (zT_some (zT_some ?_))
    have A1' : o = ans := by rw [← A1]; exact (List.append_nil o).symm
    have F1' : [] = fin := F1
    rw [← A1', ← F1']
    exact ⟨e41, e37, z1, g1⟩
  | cons w st =>
    rw [List.length_cons] at e41 l1
    have top : M1 267 st.length = w := S1.1
    rw [e41, hR.at (k := 40) (b := 267) rfl (by decide), nI_sub1 (by omega), Nat.add_sub_cancel, ztn_nI (by omega), top]
    refine zT_if0 (nI_np (by omega) (by omega)) (zT_ck (zin_nI (by omega) (by omega)) ?_)
    have stop : bondR w < lb + 1 → zT (some (Sum.inr (Sum.inl M1)) : Option (zM ⊕ zM ⊕ zM)) (Sum.elim (fun v1 => ∃ k1, k1 < (w :: st).length ∧ ∃ (st : List Int32) (o : zEx), k1 = st.length ∧ (∀ w, w ∈ st → w = 6 ∨ w = 8 ∨ w = 9 ∨ w = 10 ∨ w = 15) ∧ st.length ≤ 20 ∧ v1 242 41 = nI st.length ∧ zStk v1 267 st ∧ v1 242 37 = nI (p0 + o.length) ∧ out.length ≤ o.length ∧ p0 + o.length + opsN st = e ∧ zCd v1 p0 o ∧ zag (coA (p0 + out.length) e) M v1 ∧ o ++ (popS (lb + 1) st).1 = ans ∧ (popS (lb + 1) st).2 = fin) (fun e13 => zT (Sum.elim (fun e14 => some e14) (fun e15 => some e15) e13) (fun M1 => M1 242 41 = nI fin.length ∧ M1 242 37 = nI (p0 + ans.length) ∧ zCd M1 p0 ans ∧ zag (coA (p0 + out.length) e) M M1))) := fun c => by
      unfold popS at A1 F1
      rw [if_pos c] at A1 F1
      have A1' : o = ans := by rw [← A1]; exact (List.append_nil o).symm
      have F1' : w :: st = fin := F1
      rw [← A1', ← F1', List.length_cons]
      exact zT_some (zT_some ⟨e41, e37, z1, g1⟩)
    have goo : ¬ bondR w < lb + 1 → zT (j_X12_comesOut_42 R M1 242 (nI lb) w) (Sum.elim (fun v1 => ∃ k1, k1 < (w :: st).length ∧ ∃ (st : List Int32) (o : zEx), k1 = st.length ∧ (∀ w, w ∈ st → w = 6 ∨ w = 8 ∨ w = 9 ∨ w = 10 ∨ w = 15) ∧ st.length ≤ 20 ∧ v1 242 41 = nI st.length ∧ zStk v1 267 st ∧ v1 242 37 = nI (p0 + o.length) ∧ out.length ≤ o.length ∧ p0 + o.length + opsN st = e ∧ zCd v1 p0 o ∧ zag (coA (p0 + out.length) e) M v1 ∧ o ++ (popS (lb + 1) st).1 = ans ∧ (popS (lb + 1) st).2 = fin) (fun e13 => zT (Sum.elim (fun e14 => some e14) (fun e15 => some e15) e13) (fun M1 => M1 242 41 = nI fin.length ∧ M1 242 37 = nI (p0 + ans.length) ∧ zCd M1 p0 ans ∧ zag (coA (p0 + out.length) e) M M1))) := fun c => by
      unfold popS at A1 F1
      rw [if_neg c] at A1 F1
      have w6 : ¬ w = 6 := fun q => c (by rw [q]; exact Nat.succ_pos _)
      have n1 : opsN (w :: st) = opsN st + 1 := by rw [opsN_c, if_neg w6]
      rw [n1] at b1
      unfold j_X12_comesOut_42 j_X12_comesOut_84
      rw [e41, nI_sub1 (by omega), Nat.add_sub_cancel]
      have e2 : zup M1 242 41 (nI st.length) 242 37 = nI (p0 + o.length) := by rw [zup_k (by omega)]; exact e37
      have J2 : ∀ k, k = opC w → zT (zbd (f_X12_emit R (zup M1 242 41 (nI st.length)) 242 k 0) fun M9 => some (Sum.inl M9)) (Sum.elim (fun v1 => ∃ k1, k1 < (w :: st).length ∧ ∃ (st : List Int32) (o : zEx), k1 = st.length ∧ (∀ w, w ∈ st → w = 6 ∨ w = 8 ∨ w = 9 ∨ w = 10 ∨ w = 15) ∧ st.length ≤ 20 ∧ v1 242 41 = nI st.length ∧ zStk v1 267 st ∧ v1 242 37 = nI (p0 + o.length) ∧ out.length ≤ o.length ∧ p0 + o.length + opsN st = e ∧ zCd v1 p0 o ∧ zag (coA (p0 + out.length) e) M v1 ∧ o ++ (popS (lb + 1) st).1 = ans ∧ (popS (lb + 1) st).2 = fin) (fun e13 => zT (Sum.elim (fun e14 => some e14) (fun e15 => some e15) e13) (fun M1 => M1 242 41 = nI fin.length ∧ M1 242 37 = nI (p0 + ans.length) ∧ zCd M1 p0 ans ∧ zag (coA (p0 + out.length) e) M M1))) := fun k hk => by
        refine zT_bd (zT_w (X12_emit hR (by omega) e2 k 0) ?_)
        rintro M2 ⟨d1, d2, d3, g2⟩
        refine zT_some ⟨st.length, by simp, st, o ++ [(opC w, 0)], rfl, fun v hv => o1 v (by simp [hv]), by omega, by rw [g2 242 41 (by unfold emA; omega), zup_same], zStk.eq _ (fun j _ => by rw [g2 267 j (by unfold emA; omega), zup_a (by omega)]) S1.2, by rw [d1, List.length_append]; rfl, by rw [List.length_append]; omega, by rw [List.length_append, List.length_singleton]; omega, zCd.snoc z1 (fun a i q1 q2 q3 q4 => by rw [g2 a i (by unfold emA; omega), zup_a (by omega)]) (by rw [d2, hk]) d3, (g1.up (by unfold coA; omega)).tr (g2.mo (fun b j q => by unfold emA at q; unfold coA; omega)), ?_, F1⟩
        rw [← A1, List.append_assoc]
        rfl
      rcases o1 w (by simp) with q | q | q | q | q
      · exact absurd q w6
      · exact zT_lt (zT_if1 q (J2 2 (by rw [q]; decide)))
      · exact zT_lt (zT_if0 (by rw [q]; decide) (zT_if1 q (J2 3 (by rw [q]; decide))))
      · exact zT_lt (zT_if0 (by rw [q]; decide) (zT_if0 (by rw [q]; decide) (zT_if1 q (J2 4 (by rw [q]; decide)))))
      · exact zT_lt (zT_if0 (by rw [q]; decide) (zT_if0 (by rw [q]; decide) (zT_if0 (by rw [q]; decide) (J2 5 (by rw [q]; decide)))))
    by_cases w6 : w = 6
    · exact zT_if1 w6 (stop (by rw [w6]; exact Nat.succ_pos _))
    refine zT_if0 w6 ?_
    rcases hlb with rfl | rfl
    · refine zT_if1 rfl (goo ?_)
      rcases o1 w (by simp) with q | q | q | q | q
      · exact absurd q w6
      all_goals rw [q]; decide
    · refine zT_if0 (by decide) ?_
      rcases o1 w (by simp) with q | q | q | q | q
      · exact absurd q w6
      · exact zT_if1 q (stop (by rw [q]; decide))
      · exact zT_if0 (by rw [q]; decide) (zT_if1 q (stop (by rw [q]; decide)))
      · exact zT_if0 (by rw [q]; decide) (zT_if0 (by rw [q]; decide) (goo (by rw [q]; decide)))
      · exact zT_if0 (by rw [q]; decide) (zT_if0 (by rw [q]; decide) (goo (by rw [q]; decide)))
end REF

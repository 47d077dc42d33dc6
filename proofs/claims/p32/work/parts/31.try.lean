/-! WHAT WOULD BE: cells that stay, searches, evenings on trial rings -/
def zfx (n j : Nat) : Prop := (n ≤ j ∧ j < 20) ∨ 60 ≤ j
theorem earnS_fx {n : Nat} {ru : zRu} {w : Nat → Int32} (hn : n ≤ 10) {j : Nat} (hj : zfx n j) : ∀ k, k ≤ n → earnS n ru w k j = w j
  | 0, _ => rfl
  | k + 1, hk => by
    unfold earnS
    rw [upd_n (by unfold zfx at hj; omega)]
    exact earnS_fx hn hj k (by omega)
theorem onceS_fx {n : Nat} {ru : zRu} {w : Nat → Int32} (hn : n ≤ 10) {j : Nat} (hj : zfx n j) : ∀ k, k ≤ n → onceS n ru w k j = w j
  | 0, _ => rfl
  | k + 1, hk => by
    unfold zfx at hj
    unfold onceS
    rw [payF_n (by omega) (by omega) (by omega) (by omega)]
    exact onceS_fx hn hj k (by omega)
theorem turnsS_fx {n s : Nat} {ru : zRu} {w : Nat → Int32} (hn : n ≤ 10) {j : Nat} (hj : zfx n j) : ∀ k, k ≤ n → turnsS n ru s w k j = w j
  | 0, _ => rfl
  | k + 1, hk => by
    unfold zfx at hj
    have hm : (s + k) % n < n := Nat.mod_lt _ (by omega)
    unfold turnsS
    rw [payF_n (by omega) (by omega) (by omega) (by omega)]
    exact turnsS_fx hn hj k (by omega)
theorem payAllF_fx {n s : Nat} {ru : zRu} {w : Nat → Int32} {tu : Int32} (hn : n ≤ 10) {j : Nat} (hj : zfx n j) : payAllF n ru tu s w j = w j := by
  unfold payAllF
  split
  · exact onceS_fx hn hj n (Nat.le_refl _)
  · exact turnsS_fx hn hj n (Nat.le_refl _)
theorem sharesF_fx {n T S : Nat} {how : Int32} {w : Nat → Int32} (h : zGd n T S w) (hS : S < 2147483648) {j : Nat} (hj : zfx n j) : sharesF n how w j = w j := by
  have hn := h.1
  unfold sharesF
  by_cases h0 : n = 0
  · rw [if_pos h0]
  rw [if_neg h0]
  have ht := toF_lt (how := how) h hS (by omega)
  unfold zfx at hj
  by_cases hh : how = 0
  · rw [if_pos hh, upd_n (by omega)]
    unfold zero30
    rw [if_neg (by omega), upd_n (by omega)]
    unfold addF
    rw [if_neg (by omega)]
  · rw [if_neg hh, upd_n (by omega)]
    unfold zero30
    rw [if_neg (by omega), upd_n (by omega), upd_n (by omega)]
theorem endF_fx {n T S : Nat} {how ev : Int32} {w : Nat → Int32} (h : zGd n T S w) (hS : S < 2147483648) {j : Nat} (hj : zfx n j) : endF n how ev w j = w j := by
  have hn := h.1
  unfold endF
  have e : upd w 42 (w 42 + 1) j = w j := upd_n (by unfold zfx at hj; omega)
  split
  · rw [sharesF_fx (h.clock _) hS hj, e]
  · exact e
theorem eveF_fx {n T S : Nat} {how : Int32} {ru : zRu} {w : Nat → Int32} (h : zGd n T S w) (hT : T + 9990 < 2147483648) (hS : S < 2147483648) {j : Nat} (hj : zfx n j) : eveF n how ru w j = w j := by
  have hn := h.1
  unfold eveF
  rw [endF_fx (((h.GearnS n (Nat.le_refl _)).mo (T1 := T + 9990) (by omega) (Nat.le_refl _)).payAll hT) hS hj, payAllF_fx hn hj, earnS_fx hn hj n (Nat.le_refl _)]
theorem evesF_fx {n T S : Nat} {how : Int32} {ru : zRu} {w : Nat → Int32} (h : zGd n T S w) {j : Nat} (hj : zfx n j) (k : Nat) (hT : T + 9990 * k < 2147483648) (hS : S + k < 2147483648) : evesF n how ru w k j = w j := by
  induction k with
  | zero => rfl
  | succ k ih =>
    show eveF n how ru (evesF n how ru w k) j = w j
    rw [Nat.mul_succ] at hT
    have hk := h.eves (how := how) (ru := ru) k
    generalize 9990 * k = c at *
    rw [← Nat.add_assoc] at hT
    have a1 : T + c < 2147483648 := Nat.lt_of_le_of_lt (Nat.le_add_right _ _) hT
    have a2 : S + k < 2147483648 := Nat.lt_of_succ_lt hS
    rw [eveF_fx (hk a1 a2) hT a2 hj]
    exact ih a1 a2
theorem buildF_hi {n a : Nat} {x : Int32} {w : Nat → Int32} {j : Nat} (hj : 60 ≤ j) : buildF n a x w j = w j := by
  unfold buildF
  rw [if_neg (by omega), if_neg (by omega)]
theorem rowF_of {M1 M2 : zM} {W : Nat → Int32} (e : rowF M1 = W) (h0 : M2 270 = M1 270) (h1 : ∀ j, 60 ≤ j → M2 271 j = W j) : rowF M2 = W := by
  funext j
  unfold rowF
  by_cases c : j < 60
  · rw [if_pos c, h0, ← e]
    unfold rowF
    rw [if_pos c]
  · rw [if_neg c]
    exact h1 j (by omega)
/-- the first k of m from k0 on that is so -/
def seekF (P : Nat → Bool) : Nat → Nat → Option Nat
  | 0, _ => none
  | m + 1, k => if P k = true then some k else seekF P m (k + 1)
theorem zT_seek {V E : Type} {b : V → Option (V ⊕ E)} (N : Nat) (P : Nat → Bool) (I : Nat → V → Prop) {Q : E → Prop} {v : V} (h0 : I 0 v) (hN : N < 999999)
    (hs : ∀ k v, k < N → I k v → P k = false → zT (b v) (Sum.elim (fun v1 => I (k + 1) v1) (fun _ => False)))
    (hf : ∀ k v, k < N → I k v → P k = true → seekF P N 0 = some k → zT (b v) (Sum.elim (fun _ => False) Q))
    (he : ∀ v, I N v → seekF P N 0 = none → zT (b v) (Sum.elim (fun _ => False) Q)) : zT (zloop zN b v) Q := by
  obtain ⟨ans, hA⟩ : ∃ ans, seekF P N 0 = ans := ⟨_, rfl⟩
  simp only [hA] at hf he
  refine zT_for N (fun k v => I k v ∧ seekF P (N - k) k = ans) ⟨h0, hA⟩ hN ?_ ?_
  · rintro k v hk ⟨hi, hq⟩
    have e : N - k = (N - (k + 1)) + 1 := by omega
    rw [e] at hq
    unfold seekF at hq
    cases hp : P k with
    | true =>
      rw [hp, if_pos rfl] at hq
      refine zT_w (hf k v hk hi hp hq.symm) ?_
      rintro (z | z) q
      · exact q.elim
      · exact q
    | false =>
      rw [hp, if_neg (by decide)] at hq
      refine zT_w (hs k v hk hi hp) ?_
      rintro (z | z) q
      · exact ⟨q, hq⟩
      · exact q.elim
  · rintro v ⟨hi, hq⟩
    rw [Nat.sub_self] at hq
    exact he v hi hq.symm
theorem seekF_lt {P : Nat → Bool} : ∀ (m k j : Nat), seekF P m k = some j → k ≤ j ∧ j < k + m ∧ P j = true
  | 0, _, _, h => by cases h
  | m + 1, k, j, h => by
    unfold seekF at h
    by_cases c : P k = true
    · rw [if_pos c] at h
      cases h
      exact ⟨Nat.le_refl _, by omega, c⟩
    · rw [if_neg c] at h
      obtain ⟨a, b, d⟩ := seekF_lt m (k + 1) j h
      exact ⟨by omega, by omega, d⟩
theorem seekF_congr {P P1 : Nat → Bool} : ∀ (m k : Nat), (∀ j, k ≤ j → j < k + m → P j = P1 j) → seekF P m k = seekF P1 m k
  | 0, _, _ => rfl
  | m + 1, k, h => by
    unfold seekF
    rw [h k (Nat.le_refl _) (by omega), seekF_congr m (k + 1) (fun j a b => h j (by omega) (by omega))]
def zTr (r : Nat) : Prop := r = 188 ∨ r = 195 ∨ r = 201 ∨ r = 213
/-- the trial rings and what the rules reckon in -/
def zst : Nat → Nat → Prop := fun b _ => (188 ≤ b ∧ b < 193) ∨ (195 ≤ b ∧ b < 200) ∨ (201 ≤ b ∧ b < 206) ∨ (213 ≤ b ∧ b ≤ 217) ∨ b = 222 ∨ b = 226 ∨ b = 228 ∨ b = 229 ∨ b = 234 ∨ b = 238 ∨ b = 240 ∨ b = 241
theorem zst.sk {M M1 : zM} (g : zag zst M M1) : zag zsk M M1 := g.mo (fun b k e => by unfold zst at e; unfold zsk; omega)
theorem zst.sc {M M1 : zM} (g : zag zst M M1) : zag zsc M M1 := zsk.sc (zst.sk g)
theorem zst.rws {M M1 : zM} (g : zag zst M M1) : rowF M1 = rowF M := zsk.rws (zst.sk g)
theorem clA.st {M M1 : zM} {r q : Nat} (h : zag (clA r q) M M1) (hr : zTr r) (hq : q = 218 ∨ q = 230) : zag zst M M1 := h.mo (fun b k e => by unfold clA at e; unfold zTr at hr; unfold zst; omega)
theorem zblk.st {M M1 : zM} {r : Nat} (ht : zTr r) (g : zag (zblk r) M M1) : zag zst M M1 := g.mo (fun b k e => by unfold zblk at e; unfold zTr at ht; unfold zst; omega)
section TRY
variable {R : zR} {M : zM} {ru : zRu} {q l n T S u x : Nat}
theorem zSt.copyC {r : Nat} (h : zSt R M ru q l n T S u x) (hr : zrg R r) (ht : zTr r) : zT (f_X6_copy R M r 13) (fun M1 => RW M1 r n (rowF M) ∧ zag zst M M1 ∧ rowF M1 = rowF M) := by
  refine zT_w (X6_copy hr h.r13 h.row (by unfold zTr at ht; omega)) ?_
  rintro M1 ⟨w1, g1⟩
  have g : zag zst M M1 := g1.mo (fun b k e => by unfold zblk at e; unfold zTr at ht; unfold zst; omega)
  exact ⟨w1, g, zst.rws g⟩
theorem zSt.how (h : zSt R M ru q l n T S u x) : M q 8 = ruH ru := h.cr.2.2.2.2.2.2.1
theorem zSt.eveC {r n1 T1 S1 : Nat} {w : Nat → Int32} {how : Int32} (h : zSt R M ru q l n T S u x) (hr : zrg R r) (ht : zTr r) (hw : RW M r n1 w) (hg : zGd n1 T1 S1 w) (hS : S1 < 2147483648) (hh : how = 0 ∨ how = 1 ∨ how = 2) : zT (f_X7_evening R M q r how) (fun M1 => RW M1 r n1 (eveF n1 how ru w) ∧ zag zst M M1 ∧ rowF M1 = rowF M) := by
  have hq := h.qq
  obtain ⟨_, _, ⟨s, hs, es⟩, _⟩ := id hg
  refine zT_w (X7_evening h.cr h.ok hr hw (by unfold zTr at ht; omega) es (by omega) hh) ?_
  rintro M1 ⟨w1, g1⟩
  have g := clA.st g1 ht hq
  exact ⟨w1, g, zst.rws g⟩
theorem zSt.evesC {r n1 T1 S1 c : Nat} {w : Nat → Int32} {how : Int32} (h : zSt R M ru q l n T S u x) (hr : zrg R r) (ht : zTr r) (hw : RW M r n1 w) (hg : zGd n1 T1 S1 w) (hT : T1 + 9990 * c < 2147483648) (hS : S1 + c < 2147483648) (hc : c < 999999) (hh : how = 0 ∨ how = 1 ∨ how = 2) : zT (f_X7_evenings R M q r (nI c) how) (fun M1 => RW M1 r n1 (evesF n1 how ru w c) ∧ zag zst M M1 ∧ rowF M1 = rowF M) := by
  have hq := h.qq
  refine zT_w (X7_evenings h.cr h.ok hr hw (by unfold zTr at ht; omega) hg hT hS hc hh) ?_
  rintro M1 ⟨w1, g1⟩
  have g := clA.st g1 ht hq
  exact ⟨w1, g, zst.rws g⟩
theorem zSt.wantC {r n1 k : Nat} {w : Nat → Int32} (h : zSt R M ru q l n T S u x) (hr : zrg R r) (ht : zTr r) (hw : RW M r n1 w) (hk : k < n1) : zT (f_X7_wanted R M q r (nI k)) (fun p => p.1 = wantF n1 ru w k ∧ RW p.2 r n1 w ∧ zag zst M p.2 ∧ rowF p.2 = rowF M) := by
  have hq := h.qq
  unfold zTr at ht
  refine zT_w (X7_wanted h.cr h.ok hr hw (by omega) hk) ?_
  rintro ⟨y, M1⟩ ⟨e, g1⟩
  have g : zag zst M M1 := g1.mo (fun b k e => by unfold zst; omega)
  exact ⟨e, hw.out g1 (fun b k e => by omega), g, zst.rws g⟩
theorem zSt.copyR (h : zSt R M ru q l n T S u x) : zT (f_X12_copies R M 242) (fun M1 => M1 271 = rowF M ∧ zag zsr M M1 ∧ rowF M1 = rowF M) := by
  refine zT_w (X12_copies h.md) ?_
  rintro M1 ⟨e, g⟩
  refine ⟨e, z271.sr g, rowF_of rfl (g.row (fun k => by omega)) (fun j _ => by rw [e])⟩
theorem zSt.howR (h : zSt R M ru q l n T S u x) : M 255 l = ruH ru := h.ms.2.2.2.1
theorem zSt.eveR {n1 T1 S1 : Nat} {how : Int32} (h : zSt R M ru q l n T S u x) (hg : zGd n1 T1 S1 (M 271)) (hT : T1 + 9990 < 2147483648) (hS : S1 < 2147483648) (hh : how = 0 ∨ how = 1 ∨ how = 2) : zT (f_X12_evening R M 242 how) (fun M1 => M1 271 = eveF n1 how ru (M 271) ∧ zag zsr M M1) := by
  refine zT_w (X12_evening h.md h.ms h.ok h.l18 hg hT hS hh) ?_
  rintro M1 ⟨e, g⟩
  exact ⟨e, mrA.sr g⟩
theorem zSt.evesR {n1 T1 S1 c : Nat} (h : zSt R M ru q l n T S u x) (hg : zGd n1 T1 S1 (M 271)) (hT : T1 + 9990 * c < 2147483648) (hS : S1 + c < 2147483648) (hc : c < 999999) : zT (f_X12_evenings R M 242 (nI c)) (fun M1 => M1 271 = evesF n1 (ruH ru) ru (M 271) c ∧ zag zsr M M1) := by
  refine zT_w (X12_evenings h.md h.ms h.ok h.l18 hg hT hS hc) ?_
  rintro M1 ⟨e, g⟩
  exact ⟨e, mrA.sr g⟩
theorem zSt.wantR {n1 T1 S1 k : Nat} (h : zSt R M ru q l n T S u x) (hg : zGd n1 T1 S1 (M 271)) (hT : T1 < 2147483648) (hk : k < n1) : zT (f_X12_wanted R M 242 (nI k)) (fun p => p.1 = wantF n1 ru (M 271) k ∧ p.2 271 = M 271 ∧ zag zsr M p.2) := by
  refine zT_w (X12_wanted h.md h.ms h.l18 hg hT hk) ?_
  rintro ⟨y, M1⟩ ⟨e, g⟩
  exact ⟨e, tl271 g, tlA.sr g⟩
/-- the row stays the same behind what the reference tried -/
theorem zSt.rowR {M1 : zM} {w : Nat → Int32} (g : zag zsr M M1) (e : M1 271 = w) (hw : ∀ j, 60 ≤ j → w j = rowF M j) : rowF M1 = rowF M := rowF_of rfl (g.row (fun k => by unfold zsr; omega)) (fun j hj => by rw [e]; exact hw j hj)
theorem X12_apartNow (hR : zMd R) {n1 : Nat} (hn : n1 ≤ 10) (hw : M 271 40 = nI n1) : f_X12_apartNow R M 242 = some (apartF n1 (M 271)) := by
  apply zT_val
  unfold f_X12_apartNow
  have r46 : R 242 46 = 271 := hR.at rfl (by decide)
  have f40 : M 271 (ztn (40 : Int32)) = nI n1 := hw
  rw [r46, f40]
  by_cases h0 : n1 = 0
  · subst h0
    exact zT_if1 rfl (zT_some rfl)
  refine zT_if0 (nI_ne0 (by omega) (by omega)) (zT_bd ?_)
  refine zT_for (n1 - 1) (fun k v => v.2.2 = nI (k + 1) ∧ v.1 = minF (M 271) k ∧ v.2.1 = maxF (M 271) k) ⟨rfl, rfl, rfl⟩ (by omega) ?_ ?_
  · rintro k ⟨a, b, c⟩ hk ⟨rfl, rfl, rfl⟩
    unfold b_X12_apartNow_28 j_X12_apartNow_56
    simp only
    rw [r46, f40]
    have hz := zin_nI (k := k + 1) (n := 60) (by omega) (by omega)
    refine zT_if0 (nI_ge (by omega) (by omega)) (zT_ck hz ?_)
    rw [ztn_nI (by omega)]
    have mi : ∀ y, M 271 (k + 1) = y → minF (M 271) (k + 1) = if y < minF (M 271) k then y else minF (M 271) k := fun y e => by rw [← e]; rfl
    have ma : ∀ y, M 271 (k + 1) = y → maxF (M 271) (k + 1) = if maxF (M 271) k < y then y else maxF (M 271) k := fun y e => by rw [← e]; rfl
    have mi := mi _ rfl
    have ma := ma _ rfl
    refine zT_if (fun e1 => zT_ck hz (zT_if (fun e2 => zT_some ?_) (fun e2 => zT_ck hz (zT_some ?_)))) (fun e1 => zT_ck hz (zT_ck hz (zT_if (fun e2 => zT_some ?_) (fun e2 => zT_ck hz (zT_some ?_)))))
    · rw [mi, ma, if_neg (by rw [Int32.not_lt]; exact e1), if_neg (by rw [Int32.not_lt]; exact e2)]
      exact ⟨nI_1 _, rfl, rfl⟩
    · rw [mi, ma, if_neg (by rw [Int32.not_lt]; exact e1), if_pos (i_lt_of e2)]
      exact ⟨nI_1 _, rfl, rfl⟩
    · rw [mi, ma, if_pos (i_lt_of e1), if_neg (by rw [Int32.not_lt]; exact e2)]
      exact ⟨nI_1 _, rfl, rfl⟩
    · rw [mi, ma, if_pos (i_lt_of e1), if_pos (i_lt_of e2)]
      exact ⟨nI_1 _, rfl, rfl⟩
  · rintro ⟨a, b, c⟩ ⟨rfl, rfl, rfl⟩
    unfold b_X12_apartNow_28
    simp only
    rw [r46, f40]
    refine zT_if1 (nI_le (by omega) (by omega)) (zT_some (zT_some ?_))
    unfold apartF
    rw [if_neg h0]
theorem X11_isE_y {c : Nat} (hc : c ≤ 300) : f_X11_isEvenings (nI c) = some 1 := by
  unfold f_X11_isEvenings
  rw [if_neg (nI_pos (by omega)), nI_lit 300, if_neg (nI_nlt hc (by omega))]
theorem X11_isE_n {y : Int32} (h : y < 0 ∨ 300 < y) : f_X11_isEvenings y = some 0 := by
  unfold f_X11_isEvenings
  by_cases h0 : y < 0
  · rw [if_pos h0]
  · rw [if_neg h0, if_pos (h.resolve_left h0)]
/-- both sides' answers of a question -/
def zAns (R : zR) (M : zM) (ru : zRu) (q l n T S u x : Nat) (fc : Option (Int32 × zM)) (fr : zM → Option (Int32 × zM)) : Prop := zT fc (fun p => zag zsk M p.2 ∧ zT (fr p.2) (fun p1 => p1.1 = p.1 ∧ zag zsr p.2 p1.2))
theorem zAns.out {fc : Option (Int32 × zM)} {fr : zM → Option (Int32 × zM)} (h : zSt R M ru q l n T S u x) (a : zAns R M ru q l n T S u x fc fr) : zT fc (fun p => zT (fr p.2) (fun p1 => p1.1 = p.1 ∧ zOut R p1.2 (T + 3000000) (S + 300))) := by
  refine zT_w a ?_
  rintro ⟨y, M1⟩ ⟨g1, k⟩
  refine zT_w k ?_
  rintro ⟨z, M2⟩ ⟨e, g2⟩
  exact ⟨e, (h.sc ((zsk.sc g1).tr (zsr.sc g2))).out (by omega) (by omega)⟩
theorem zApart (h : zSt R M ru q l n T S u x) (hT : T + 3100000 < 2147483648) (hS : S + 400 < 2147483648) (y : Int32) : zAns R M ru q l n T S u x (f_X11_apart R M 2 y) (fun M1 => f_X12_apart R M1 242 y) := by
  unfold zAns f_X11_apart f_X12_apart
  rw [h.x2, h.q8, h.xr.2.2.2.2.1]
  by_cases hy : y < 0 ∨ 300 < y
  · exact zT_bd (zT_eq (X11_isE_n hy) (zT_if1 rfl (zT_some ⟨zag.rf, zT_bd (zT_eq (in_n hy) (zT_if1 rfl (zT_some ⟨rfl, zag.rf⟩)))⟩)))
  obtain ⟨c, hc, rfl⟩ := nI_upto (e := 300) (fun q => hy (Or.inl q)) (i_le_of (fun q => hy (Or.inr q))) (by omega)
  obtain ⟨t0, t1, t2, -⟩ := h.rt
  refine zT_bd (zT_eq (X11_isE_y hc) (zT_if0 (by decide) (zT_bd2 ?_)))
  unfold f_X1_spreadAfter
  rw [t0]
  refine zT_bd (zT_w (h.copyC t2 (by unfold zTr; omega)) ?_)
  rintro M1 ⟨w1, g1, f1⟩
  have h1 := h.sc (zst.sc g1)
  rw [h1.how]
  refine zT_bd (zT_w (h1.evesC t2 (by unfold zTr; omega) w1 h.gd (by omega) (by omega) (by omega) h.ok.1) ?_)
  rintro M2 ⟨w2, g2, f2⟩
  refine zT_bd (zT_eq (X6_spread t2 w2) (zT_some (zT_some ⟨zst.sk (g1.tr g2), ?_⟩)))
  have h2 := h1.sc (zst.sc g2)
  refine zT_bd (zT_eq (in_y (nI_pos (by omega)) (by rw [nI_lit 300]; exact nI_nlt hc (by omega))) (zT_if0 (by decide) (zT_bd (zT_w h2.copyR ?_))))
  rintro M3 ⟨e3, g3, f3⟩
  have h3 := h2.sc (zsr.sc g3)
  have e3b : M3 271 = rowF M := by rw [e3, f2, f1]
  refine zT_bd (zT_w (h3.evesR (by rw [e3b]; exact h.gd) (by omega) (by omega) (by omega)) ?_)
  rintro M4 ⟨e4, g4⟩
  rw [e3b] at e4
  refine zT_bd (zT_eq (X12_apartNow h.md h.n10 ?_) (zT_some ⟨?_, g3.tr g4⟩))
  · rw [e4]
    exact (h.gd.eves c (by omega) (by omega)).2.1
  · show apartF n (M4 271) = _
    rw [e4]
end TRY

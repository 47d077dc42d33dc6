/-! THE STATE of both sides -/
def zRq (R : zR) (q : Nat) : Prop := R q 0 = q + 1 ∧ R q 1 = q + 5 ∧ R q 2 = q + 9 ∧ R q 3 = q + 10 ∧ R q 4 = q + 11 ∧ R (q + 1) 0 = q + 2 ∧ R (q + 1) 1 = q + 3 ∧ R (q + 1) 2 = q + 4 ∧ R (q + 5) 0 = q + 6 ∧ R (q + 5) 1 = q + 7 ∧ R (q + 5) 2 = q + 8
def zRt (R : zR) : Prop := R 187 0 = 188 ∧ R 187 1 = 193 ∧ zrg R 188 ∧ R 194 0 = 195 ∧ zrg R 195 ∧ R 200 0 = 201 ∧ R 200 1 = 206 ∧ zrg R 201 ∧ R 207 0 = 208 ∧ R 207 1 = 209 ∧ R 207 2 = 210 ∧ R 207 3 = 211 ∧ R 207 4 = 212 ∧ R 207 5 = 213 ∧ zrg R 213
def zRp (R : zR) : Prop := R 3 0 = 4 ∧ R 5 0 = 6 ∧ R 5 1 = 11 ∧ R 5 2 = 12 ∧ R 6 0 = 7 ∧ R 6 1 = 8 ∧ R 6 2 = 9 ∧ R 6 3 = 10
def zRs (R : zR) : Prop := zMd R ∧ zKR R ∧ zXR R ∧ zRt R ∧ zRq R 218 ∧ zRq R 230 ∧ zRp R
/-- the reference's side l holds the rules, within its own half -/
def zBq (M : zM) (l b : Nat) : Option (zEx × zEx) × zEx → Prop
  | (none, e) => M 260 b = 0 ∧ ∃ p, M 263 b = nI p ∧ M 264 b = nI (p + e.length) ∧ zCd M p e ∧ 420 * l ≤ p ∧ p + e.length ≤ 420 * l + 420
  | (some (u, v), e) => M 260 b = 1 ∧ ∃ p, M 261 b = nI p ∧ M 262 b = nI (p + u.length) ∧ M 263 b = nI (p + u.length + v.length) ∧ M 264 b = nI (p + u.length + v.length + e.length) ∧ zCd M p u ∧ zCd M (p + u.length) v ∧ zCd M (p + u.length + v.length) e ∧ 420 * l ≤ p ∧ p + u.length + v.length + e.length ≤ 420 * l + 420
def zBz (M : zM) (l : Nat) : Nat → zPr → Prop
  | _, [] => True
  | b, g :: ps => zBq M l b g ∧ zBz M l (b + 1) ps
def zMq (M : zM) (l i k : Nat) (P : zPr) : Prop := dP P ∧ ((M 258 i = M 259 i ∧ P = dflt k) ∨ (P ≠ [] ∧ ∃ f, M 258 i = nI f ∧ M 259 i = nI (f + P.length) ∧ 130 * l ≤ f ∧ f + P.length ≤ 130 * l + 130 ∧ zBz M l f P))
def zMz (M : zM) (l : Nat) (ru : zRu) : Prop := l < 2 ∧ M 253 l = ruS ru ∧ M 254 l = ruT ru ∧ M 255 l = ruH ru ∧ M 256 l = ruE ru ∧ M 257 l = ruD ru ∧ zMq M l (2 * l) 0 (ruP ru) ∧ zMq M l (2 * l + 1) 1 (ruQ ru)
theorem zBq.br {M : zM} {l b : Nat} {g : Option (zEx × zEx) × zEx} (hl : l < 2) (h : zBq M l b g) : zBr M b g := by
  match g, h with
  | (none, e), ⟨h0, p, h1, h2, h3, h4, h5⟩ => exact ⟨h0, p, h1, h2, h3, by omega⟩
  | (some (u, v), e), ⟨h0, p, h1, h2, h3, h4, h5, h6, h7, h8, h9⟩ => exact ⟨h0, p, h1, h2, h3, h4, h5, h6, h7, by omega⟩
theorem zBz.bs {M : zM} {l : Nat} (hl : l < 2) : ∀ (ps : zPr) (b : Nat), zBz M l b ps → zBs M b ps
  | [], _, _ => trivial
  | _ :: ps, b, h => ⟨h.1.br hl, zBz.bs hl ps (b + 1) h.2⟩
theorem zMq.mp {M : zM} {l i k : Nat} {P : zPr} (hl : l < 2) (h : zMq M l i k P) : zMp M i k P := by
  refine ⟨h.1, ?_⟩
  rcases h.2 with h | ⟨h0, f, h1, h2, h3, h4, h5⟩
  · exact Or.inl h
  · exact Or.inr ⟨h0, f, h1, h2, by omega, zBz.bs hl _ _ h5⟩
theorem zMz.ms {M : zM} {l : Nat} {ru : zRu} (h : zMz M l ru) : zMs M l ru := by
  obtain ⟨h0, h1, h2, h3, h4, h5, h6, h7⟩ := h
  exact ⟨h0, h1, h2, h3, h4, h5, h6.mp h0, h7.mp h0⟩
def zSame (l : Nat) (M M1 : zM) : Prop := (∀ a, 253 ≤ a → a ≤ 257 → M1 a l = M a l) ∧ (∀ a k, 258 ≤ a → a ≤ 259 → 2 * l ≤ k → k < 2 * l + 2 → M1 a k = M a k) ∧ (∀ a k, 260 ≤ a → a ≤ 264 → 130 * l ≤ k → k < 130 * l + 130 → M1 a k = M a k) ∧ (∀ a k, 265 ≤ a → a ≤ 266 → 420 * l ≤ k → k < 420 * l + 420 → M1 a k = M a k)
theorem zCd.eqr {M M1 : zM} : ∀ (e : List (Int32 × Int32)) (p : Nat), (∀ a k, 265 ≤ a → a ≤ 266 → p ≤ k → k < p + e.length → M1 a k = M a k) → zCd M p e → zCd M1 p e
  | [], _, _, _ => trivial
  | (k, x) :: e, p, he, h => by
    simp only [List.length_cons] at he
    refine ⟨?_, ?_, zCd.eqr e (p + 1) (fun a k q1 q2 q3 q4 => he a k q1 q2 (by omega) (by omega)) h.2.2⟩
    · rw [he 265 p (by omega) (by omega) (by omega) (by omega)]; exact h.1
    · rw [he 266 p (by omega) (by omega) (by omega) (by omega)]; exact h.2.1
theorem zBq.eq {M M1 : zM} {l b : Nat} {g : Option (zEx × zEx) × zEx} (hs : zSame l M M1) (hb : 130 * l ≤ b ∧ b < 130 * l + 130) (h : zBq M l b g) : zBq M1 l b g := by
  obtain ⟨-, -, s2, s3⟩ := hs
  have g0 : ∀ a, 260 ≤ a → a ≤ 264 → M1 a b = M a b := fun a q1 q2 => s2 a b q1 q2 hb.1 hb.2
  match g, h with
  | (none, e), ⟨h0, p, h1, h2, h3, h4, h5⟩ =>
    exact ⟨by rw [g0 260 (by omega) (by omega)]; exact h0, p, by rw [g0 263 (by omega) (by omega)]; exact h1, by rw [g0 264 (by omega) (by omega)]; exact h2, zCd.eqr _ _ (fun a k q1 q2 q3 q4 => s3 a k q1 q2 (by omega) (by omega)) h3, h4, h5⟩
  | (some (u, v), e), ⟨h0, p, h1, h2, h3, h4, h5, h6, h7, h8, h9⟩ =>
    exact ⟨by rw [g0 260 (by omega) (by omega)]; exact h0, p, by rw [g0 261 (by omega) (by omega)]; exact h1, by rw [g0 262 (by omega) (by omega)]; exact h2, by rw [g0 263 (by omega) (by omega)]; exact h3, by rw [g0 264 (by omega) (by omega)]; exact h4, zCd.eqr _ _ (fun a k q1 q2 q3 q4 => s3 a k q1 q2 (by omega) (by omega)) h5, zCd.eqr _ _ (fun a k q1 q2 q3 q4 => s3 a k q1 q2 (by omega) (by omega)) h6, zCd.eqr _ _ (fun a k q1 q2 q3 q4 => s3 a k q1 q2 (by omega) (by omega)) h7, h8, h9⟩
theorem zBz.eq {M M1 : zM} {l : Nat} (hs : zSame l M M1) : ∀ (ps : zPr) (b : Nat), 130 * l ≤ b → b + ps.length ≤ 130 * l + 130 → zBz M l b ps → zBz M1 l b ps
  | [], _, _, _, _ => trivial
  | _ :: ps, b, q1, q2, h => by
    simp only [List.length_cons] at q2
    exact ⟨h.1.eq hs ⟨q1, by omega⟩, zBz.eq hs ps (b + 1) (by omega) (by omega) h.2⟩
theorem zMq.eq {M M1 : zM} {l i k : Nat} {P : zPr} (hs : zSame l M M1) (hi : 2 * l ≤ i ∧ i < 2 * l + 2) (h : zMq M l i k P) : zMq M1 l i k P := by
  refine ⟨h.1, ?_⟩
  rw [hs.2.1 258 i (by omega) (by omega) hi.1 hi.2, hs.2.1 259 i (by omega) (by omega) hi.1 hi.2]
  rcases h.2 with h | ⟨h0, f, h1, h2, h3, h4, h5⟩
  · exact Or.inl h
  · exact Or.inr ⟨h0, f, h1, h2, h3, h4, zBz.eq hs _ _ h3 h4 h5⟩
theorem zMz.eq {M M1 : zM} {l : Nat} {ru : zRu} (hs : zSame l M M1) (h : zMz M l ru) : zMz M1 l ru := by
  obtain ⟨h0, h1, h2, h3, h4, h5, h6, h7⟩ := h
  have g := hs.1
  exact ⟨h0, by rw [g 253 (by omega) (by omega)]; exact h1, by rw [g 254 (by omega) (by omega)]; exact h2, by rw [g 255 (by omega) (by omega)]; exact h3, by rw [g 256 (by omega) (by omega)]; exact h4, by rw [g 257 (by omega) (by omega)]; exact h5, h6.eq hs (by omega), h7.eq hs (by omega)⟩
/-- what was told; the tape -/
def zTo (M : zM) : Prop := ∃ t, t ≤ 20 ∧ M 207 6 = nI t ∧ M 242 53 = nI t ∧ ∀ i, i < t → M 276 i = M 208 i ∧ M 277 i = M 209 i ∧ (∃ h, h < 10 ∧ M 208 i = nI h) ∧ ∃ p, p ≤ 9999 ∧ M 209 i = nI p
def zTp (M : zM) : Prop := ∃ t, t ≤ 2000 ∧ M 3 1 = nI t ∧ M 242 2 = nI t ∧ ∀ i, i < t → M 4 i = M 243 i
def zSt (R : zR) (M : zM) (ru : zRu) (q l n T S u x : Nat) : Prop := zRs R ∧ R 2 8 = q ∧ R 2 9 = 448 - q ∧ (q = 218 ∨ q = 230) ∧ zOk ru ∧ zCr R M q ru ∧ zMz M l ru ∧ M 242 18 = nI l ∧ RW M 13 n (M 270) ∧ zGd n T S (M 270) ∧ zKp M T S u x ∧ zSl M T S ∧ zTo M ∧ zTp M ∧ M 2 10 = M 242 17
def zOut (R : zR) (M : zM) (T S : Nat) : Prop := ∃ ru q l n u x, zSt R M ru q l n T S u x
/-- the class's scratch cells; the reference's -/
def zsk : Nat → Nat → Prop := fun b k => (188 ≤ b ∧ b ≤ 206) ∨ (b = 207 ∧ 7 ≤ k) ∨ (210 ≤ b ∧ b ≤ 217) ∨ b = 222 ∨ b = 226 ∨ b = 228 ∨ b = 229 ∨ b = 234 ∨ b = 238 ∨ b = 240 ∨ b = 241
def zsr : Nat → Nat → Prop := fun b k => b = 268 ∨ b = 269 ∨ b = 271 ∨ b = 272 ∨ b = 274 ∨ b = 275 ∨ b = 278 ∨ b = 279 ∨ b = 280 ∨ (b = 242 ∧ (k = 44 ∨ k = 51))
def zsc : Nat → Nat → Prop := fun b k => zsk b k ∨ zsr b k
def chA : Nat → Nat → Prop := fun b k => zsc b k ∨ (13 ≤ b ∧ b < 18) ∨ (b = 18 ∧ (k = 3 ∨ k = 4)) ∨ (22 ≤ b ∧ b < 172) ∨ b = 270 ∨ b = 273 ∨ (b = 242 ∧ k = 48)
theorem zsk.sc {M M1 : zM} (h : zag zsk M M1) : zag zsc M M1 := h.mo (fun _ _ e => Or.inl e)
theorem zsr.sc {M M1 : zM} (h : zag zsr M M1) : zag zsc M M1 := h.mo (fun _ _ e => Or.inr e)
theorem zag.row {A : Nat → Nat → Prop} {M M1 : zM} {a : Nat} (h : zag A M M1) (ha : ∀ k, ¬ A a k) : M1 a = M a := funext fun k => h a k (ha k)
theorem clA.sk {M M1 : zM} {r q : Nat} (h : zag (clA r q) M M1) (hr : (188 ≤ r ∧ r ≤ 202) ∨ r = 213) (hq : q = 218 ∨ q = 230) : zag zsk M M1 := h.mo (fun b k e => by unfold clA at e; unfold zsk; omega)
theorem mrA.sr {M M1 : zM} (h : zag mrA M M1) : zag zsr M M1 := h.mo (fun b k e => by unfold mrA tlA at e; unfold zsr; omega)
theorem z271.sr {M M1 : zM} (h : zag (fun b _ => b = 271) M M1) : zag zsr M M1 := h.mo (fun b k e => by unfold zsr; omega)
theorem tlA.sr {M M1 : zM} (h : zag tlA M M1) : zag zsr M M1 := h.mo (fun b k e => by unfold tlA at e; unfold zsr; omega)
section ST
variable {R : zR} {M : zM} {ru : zRu} {q l n T S u x : Nat}
theorem zSt.rs (h : zSt R M ru q l n T S u x) : zRs R := h.1
theorem zSt.md (h : zSt R M ru q l n T S u x) : zMd R := h.1.1
theorem zSt.kr (h : zSt R M ru q l n T S u x) : zKR R := h.1.2.1
theorem zSt.xr (h : zSt R M ru q l n T S u x) : zXR R := h.1.2.2.1
theorem zSt.rt (h : zSt R M ru q l n T S u x) : zRt R := h.1.2.2.2.1
theorem zSt.q8 (h : zSt R M ru q l n T S u x) : R 2 8 = q := h.2.1
theorem zSt.qq (h : zSt R M ru q l n T S u x) : q = 218 ∨ q = 230 := h.2.2.2.1
theorem zSt.ok (h : zSt R M ru q l n T S u x) : zOk ru := h.2.2.2.2.1
theorem zSt.cr (h : zSt R M ru q l n T S u x) : zCr R M q ru := h.2.2.2.2.2.1
theorem zSt.mz (h : zSt R M ru q l n T S u x) : zMz M l ru := h.2.2.2.2.2.2.1
theorem zSt.ms (h : zSt R M ru q l n T S u x) : zMs M l ru := h.2.2.2.2.2.2.1.ms
theorem zSt.ll (h : zSt R M ru q l n T S u x) : l < 2 := h.2.2.2.2.2.2.1.1
theorem zSt.l18 (h : zSt R M ru q l n T S u x) : M 242 18 = nI l := h.2.2.2.2.2.2.2.1
theorem zSt.rw0 (h : zSt R M ru q l n T S u x) : RW M 13 n (M 270) := h.2.2.2.2.2.2.2.2.1
theorem zSt.gd0 (h : zSt R M ru q l n T S u x) : zGd n T S (M 270) := h.2.2.2.2.2.2.2.2.2.1
theorem zSt.kp (h : zSt R M ru q l n T S u x) : zKp M T S u x := h.2.2.2.2.2.2.2.2.2.2.1
theorem zSt.sl (h : zSt R M ru q l n T S u x) : zSl M T S := h.2.2.2.2.2.2.2.2.2.2.2.1
theorem zSt.to (h : zSt R M ru q l n T S u x) : zTo M := h.2.2.2.2.2.2.2.2.2.2.2.2.1
theorem zSt.tp (h : zSt R M ru q l n T S u x) : zTp M := h.2.2.2.2.2.2.2.2.2.2.2.2.2.1
theorem zSt.pl (h : zSt R M ru q l n T S u x) : M 2 10 = M 242 17 := h.2.2.2.2.2.2.2.2.2.2.2.2.2.2
theorem zSt.n10 (h : zSt R M ru q l n T S u x) : n ≤ 10 := h.gd0.1
theorem zSt.row (h : zSt R M ru q l n T S u x) : RW M 13 n (rowF M) := h.rw0.to60 (rowF60 M)
theorem zSt.gd (h : zSt R M ru q l n T S u x) : zGd n T S (rowF M) := h.gd0.to60 (rowF60 M)
theorem zSt.n40 (h : zSt R M ru q l n T S u x) : M 270 40 = nI n := h.gd0.2.1
theorem zSt.r45 (h : zSt R M ru q l n T S u x) : R 242 45 = 270 := h.md.at rfl (by decide)
theorem zSt.r46 (h : zSt R M ru q l n T S u x) : R 242 46 = 271 := h.md.at rfl (by decide)
theorem zSt.x2 (h : zSt R M ru q l n T S u x) : R 2 2 = 13 := h.xr.2.2.1
theorem zSt.x3 (h : zSt R M ru q l n T S u x) : R 2 3 = 18 := h.xr.2.2.2.1
theorem zSt.r13 (h : zSt R M ru q l n T S u x) : zrg R 13 := h.kr.2.2.2.2.2
/-- a change: the ring, the row, what is kept -/
theorem zSt.chg {M1 : zM} {n1 T1 S1 u1 x1 : Nat} (h : zSt R M ru q l n T S u x) (hT : T ≤ T1) (hS : S ≤ S1) (hw : RW M1 13 n1 (M1 270)) (hg : zGd n1 T1 S1 (M1 270)) (hk : zKp M1 T1 S1 u1 x1) (g : zag chA M M1) : zSt R M1 ru q l n1 T1 S1 u1 x1 := by
  have hq := h.qq
  have hl := h.ll
  obtain ⟨h1, h2, h3, h4, h5, h6, h7, h8, h9, h10, h11, h12, h13, h14, h15⟩ := h
  refine ⟨h1, h2, h3, h4, h5, ?_, ?_, ?_, hw, hg, hk, ?_, ?_, ?_, ?_⟩
  · exact h6.eq (fun b k q1 q2 q3 => g b k (by unfold chA zsc zsk zsr; omega))
  · refine h7.eq ⟨?_, ?_, ?_, ?_⟩
    · exact fun a q1 q2 => g a _ (by unfold chA zsc zsk zsr; omega)
    · exact fun a k q1 q2 _ _ => g a k (by unfold chA zsc zsk zsr; omega)
    · exact fun a k q1 q2 _ _ => g a k (by unfold chA zsc zsk zsr; omega)
    · exact fun a k q1 q2 _ _ => g a k (by unfold chA zsc zsk zsr; omega)
  · rw [g 242 18 (by unfold chA zsc zsk zsr; omega)]
    exact h8
  · exact (h12.mo hT hS).eq (fun k => g _ k (by unfold chA zsc zsk zsr; omega)) (fun k => g _ k (by unfold chA zsc zsk zsr; omega)) (fun k => g _ k (by unfold chA zsc zsk zsr; omega)) (fun a k q1 q2 => g a k (by unfold chA zsc zsk zsr; omega))
  · obtain ⟨t, t1, t2, t3, t4⟩ := h13
    refine ⟨t, t1, by rw [g 207 6 (by unfold chA zsc zsk zsr; omega)]; exact t2, by rw [g 242 53 (by unfold chA zsc zsk zsr; omega)]; exact t3, fun i hi => ?_⟩
    rw [g 276 i (by unfold chA zsc zsk zsr; omega), g 208 i (by unfold chA zsc zsk zsr; omega), g 277 i (by unfold chA zsc zsk zsr; omega), g 209 i (by unfold chA zsc zsk zsr; omega)]
    exact t4 i hi
  · obtain ⟨t, t1, t2, t3, t4⟩ := h14
    refine ⟨t, t1, by rw [g 3 1 (by unfold chA zsc zsk zsr; omega)]; exact t2, by rw [g 242 2 (by unfold chA zsc zsk zsr; omega)]; exact t3, fun i hi => ?_⟩
    rw [g 4 i (by unfold chA zsc zsk zsr; omega), g 243 i (by unfold chA zsc zsk zsr; omega)]
    exact t4 i hi
  · rw [g 2 10 (by unfold chA zsc zsk zsr; omega), g 242 17 (by unfold chA zsc zsk zsr; omega)]
    exact h15
theorem zSt.mo {T1 S1 : Nat} (h : zSt R M ru q l n T S u x) (hT : T ≤ T1) (hS : S ≤ S1) : zSt R M ru q l n T1 S1 u x := h.chg hT hS h.rw0 (h.gd0.mo hT hS) (h.kp.mo hT hS) zag.rf
/-- scratch alone -/
theorem zSt.sc {M1 : zM} (h : zSt R M ru q l n T S u x) (g : zag zsc M M1) : zSt R M1 ru q l n T S u x := by
  have r : M1 270 = M 270 := g.row (fun k => by unfold zsc zsk zsr; omega)
  refine h.chg (Nat.le_refl _) (Nat.le_refl _) ?_ ?_ ?_ (g.mo (fun _ _ e => Or.inl e))
  · rw [r]
    exact h.rw0.cells (fun a k q1 q2 => g a k (by unfold zsc zsk zsr; omega))
  · rw [r]
    exact h.gd0
  · exact h.kp.eq (g _ _ (by unfold zsc zsk zsr; omega)) (g _ _ (by unfold zsc zsk zsr; omega)) (g _ _ (by unfold zsc zsk zsr; omega)) (fun k => g _ k (by unfold zsc zsk zsr; omega)) (fun a k q1 q2 => g a k (by unfold zsc zsk zsr; omega))
theorem zSt.out {T1 S1 : Nat} (h : zSt R M ru q l n T S u x) (hT : T ≤ T1) (hS : S ≤ S1) : zOut R M T1 S1 := ⟨ru, q, l, n, u, x, h.mo hT hS⟩
/-- a thing done: noted by the class, its ring changed, the reference's row changed; then the reference keeps it -/
def zNt (M M1 : zM) (n u x : Nat) : Prop := RW M1 (22 + 5 * x) n (M 270) ∧ M1 18 3 = nI ((x + 1) % 30) ∧ M1 18 4 = nI (if u = 30 then 30 else u + 1) ∧ zag (fun a k => (22 + 5 * x ≤ a ∧ a < 27 + 5 * x) ∨ (a = 18 ∧ (k = 3 ∨ k = 4))) M M1
def cgA : Nat → Nat → Prop := fun b k => (13 ≤ b ∧ b < 18) ∨ zsk b k
theorem zSt.note (h : zSt R M ru q l n T S u x) : zT (f_X2_note R M 18 13) (fun M1 => zNt M M1 n u x ∧ RW M1 13 n (rowF M) ∧ zCr R M1 q ru) := by
  have kp := h.kp
  have hq := h.qq
  refine zT_w (X2_note h.kr kp.2.2.2.1 kp.2.2.2.2.1 kp.1 kp.2.1 h.rw0) ?_
  rintro M1 ⟨r1, h3, h4, g1⟩
  have hx := kp.2.1
  exact ⟨⟨r1, h3, h4, g1⟩, h.row.cells (fun a k q1 q2 => g1 a k (by omega)), h.cr.eq (fun b k q1 q2 q3 => g1 b k (by omega))⟩
theorem zSt.mid {M1 M2 : zM} (h : zSt R M ru q l n T S u x) (hn : zNt M M1 n u x) (g2 : zag cgA M1 M2) : M2 270 = M 270 ∧ M2 271 = M 271 ∧ rowF M2 = rowF M ∧ zMs M2 l ru ∧ M2 242 18 = nI l := by
  have hx := h.kp.2.1
  obtain ⟨-, -, -, g1⟩ := hn
  have c : ∀ a k, ¬ ((22 + 5 * x ≤ a ∧ a < 27 + 5 * x) ∨ (a = 18 ∧ (k = 3 ∨ k = 4))) → ¬ cgA a k → M2 a k = M a k := fun a k q1 q2 => by rw [g2 a k q2, g1 a k q1]
  have e0 : M2 270 = M 270 := funext fun k => c 270 k (by omega) (by unfold cgA zsk; omega)
  have e1 : M2 271 = M 271 := funext fun k => c 271 k (by omega) (by unfold cgA zsk; omega)
  refine ⟨e0, e1, ?_, h.ms.eq (fun a k q1 q2 => c a k (by omega) (by unfold cgA zsk; omega)), ?_⟩
  · unfold rowF
    rw [e0, e1]
  · rw [c 242 18 (by omega) (by unfold cgA zsk; omega)]
    exact h.l18
theorem zSt.did {M1 M2 M4 : zM} {n1 T1 S1 : Nat} {w : Nat → Int32} (h : zSt R M ru q l n T S u x) (hT : T ≤ T1) (hS : S ≤ S1) (hnt : zNt M M1 n u x)
    (w2 : RW M2 13 n1 w) (g2 : zag cgA M1 M2) (g4 : zag zsr M2 M4) (e4 : eq60 (M4 271) w) (hg : zGd n1 T1 S1 w) :
    zT (f_X12_keeps R M4 242) (fun M5 => eq60 (M5 270) w ∧ zOut R M5 T1 S1) := by
  obtain ⟨r1, h3, h4, g1⟩ := hnt
  have kp := h.kp
  obtain ⟨hu, hx, k48, -, -, -⟩ := id kp
  have c4 : ∀ a k, ¬ ((22 + 5 * x ≤ a ∧ a < 27 + 5 * x) ∨ (a = 18 ∧ (k = 3 ∨ k = 4))) → ¬ cgA a k → ¬ zsr a k → M4 a k = M a k := fun a k q1 q2 q3 => by rw [g4 a k q3, g2 a k q2, g1 a k q1]
  have m48 : M4 242 48 = nI u := by rw [c4 242 48 (by omega) (by unfold cgA zsk; omega) (by unfold zsr; omega)]; exact k48
  refine zT_w (X12_keeps h.md hu m48) ?_
  rintro M5 ⟨a1, a2, a3, a4, a5⟩
  have row : eq60 (M5 270) w := a1.tr e4
  refine ⟨row, ru, q, l, n1, _, _, h.chg (u1 := if u = 30 then 30 else u + 1) (x1 := (x + 1) % 30) hT hS ?_ (hg.to60 row) ?_ ?_⟩
  · refine (w2.cells (fun a k q1 q2 => ?_)).to60 row
    rw [a5 a k (by omega), g4 a k (by unfold zsr; omega)]
  · refine (kp.mo hT hS).step (n := n) rfl ?_ ?_ a2 ?_ (h.gd0.mo hT hS) ?_ ?_ ?_
    · rw [a5 18 3 (by omega), g4 18 3 (by unfold zsr; omega), g2 18 3 (by unfold cgA zsk; omega)]
      exact h3
    · rw [a5 18 4 (by omega), g4 18 4 (by unfold zsr; omega), g2 18 4 (by unfold cgA zsk; omega)]
      exact h4
    · exact r1.cells (fun a k q1 q2 => by rw [a5 a k (by omega), g4 a k (by unfold zsr; omega), g2 a k (by unfold cgA zsk; omega)])
    · exact fun a k q1 q2 q3 => by rw [a5 a k (by omega), c4 a k (by omega) (by unfold cgA zsk; omega) (by unfold zsr; omega)]
    · intro j k q1 q2
      rw [a3 j k q1 q2, c4 273 _ (by omega) (by unfold cgA zsk; omega) (by unfold zsr; omega)]
    · intro k q1
      rw [a4 k q1, c4 270 _ (by omega) (by unfold cgA zsk; omega) (by unfold zsr; omega)]
  · intro a k e
    have e1 : ¬ zsk a k ∧ ¬ zsr a k ∧ ¬ ((13 ≤ a ∧ a < 18) ∨ (a = 18 ∧ (k = 3 ∨ k = 4)) ∨ (22 ≤ a ∧ a < 172) ∨ a = 270 ∨ a = 273 ∨ (a = 242 ∧ k = 48)) := ⟨fun q => e (Or.inl (Or.inl q)), fun q => e (Or.inl (Or.inr q)), fun q => e (Or.inr q)⟩
    obtain ⟨f1, f2, f3⟩ := e1
    rw [a5 a k (by omega), c4 a k (by omega) (fun q => by unfold cgA at q; rcases q with q | q; omega; exact f1 q) f2]
/-- other cells: slots, what was told, the tape -/
def otA : Nat → Nat → Prop := fun b k => b = 21 ∨ (172 ≤ b ∧ b < 187) ∨ b = 281 ∨ b = 282 ∨ b = 208 ∨ b = 209 ∨ (b = 207 ∧ k = 6) ∨ b = 276 ∨ b = 277 ∨ (b = 242 ∧ k = 53) ∨ (b = 3 ∧ k = 1) ∨ b = 4 ∨ b = 243 ∨ (b = 242 ∧ k = 2)
theorem zSt.oth {M1 : zM} (h : zSt R M ru q l n T S u x) (g : zag otA M M1) (hs : zSl M1 T S) (ht : zTo M1) (hp : zTp M1) : zSt R M1 ru q l n T S u x := by
  have r : M1 270 = M 270 := g.row (fun k => by unfold otA; omega)
  have hq := h.qq
  have hl := h.ll
  obtain ⟨h1, h2, h3, h4, h5, h6, h7, h8, h9, h10, h11, h12, h13, h14, h15⟩ := h
  refine ⟨h1, h2, h3, h4, h5, ?_, ?_, ?_, ?_, ?_, ?_, hs, ht, hp, ?_⟩
  · exact h6.eq (fun b k q1 q2 q3 => g b k (by unfold otA; omega))
  · refine h7.eq ⟨?_, ?_, ?_, ?_⟩
    · exact fun a q1 q2 => g a _ (by unfold otA; omega)
    · exact fun a k q1 q2 _ _ => g a k (by unfold otA; omega)
    · exact fun a k q1 q2 _ _ => g a k (by unfold otA; omega)
    · exact fun a k q1 q2 _ _ => g a k (by unfold otA; omega)
  · rw [g 242 18 (by unfold otA; omega)]
    exact h8
  · rw [r]
    exact h9.cells (fun a k q1 q2 => g a k (by unfold otA; omega))
  · rw [r]
    exact h10
  · exact h11.eq (g _ _ (by unfold otA; omega)) (g _ _ (by unfold otA; omega)) (g _ _ (by unfold otA; omega)) (fun k => g _ k (by unfold otA; omega)) (fun a k q1 q2 => g a k (by unfold otA; omega))
  · rw [g 2 10 (by unfold otA; omega), g 242 17 (by unfold otA; omega)]
    exact h15
end ST

/-! BOTH SIDES, each by itself: the reference goes with a ghost, the class at cf18eaa, as in parts 26 to 81; the class as it stands keeps what its calls need; alike are the tape and where the fault was -/
def kAr : Nat → Bool := fun a => decide (242 ≤ a)
def kAc : Nat → Bool := fun a => decide (a = 0 ∨ (13 ≤ a ∧ a < 242))
def kRc (R : zR) : Prop := ∀ a i, kAc a = true → kAc (R a i) = true
def gEq (M Mg : zM) : Prop := (∀ a, 242 ≤ a → M a = Mg a) ∧ M 4 = Mg 4 ∧ M 3 1 = Mg 3 1 ∧ M 2 10 = Mg 2 10
def kCt (M : zM) : Prop := ∀ r, kRg r → ∃ n, n ≤ 10 ∧ M r 4 = nI n
def zNv (R : zR) (M : zM) (T S : Nat) : Prop := kRc R ∧ (∃ q ru, kC R M q ru) ∧ kCt M ∧ ∃ Mg, zOut R Mg T S ∧ gEq M Mg
def gFr (M M1 : zM) : Prop := ∀ a, (0 < a ∧ a < 13) ∨ 242 ≤ a → M1 a = M a
theorem kAr_f {R : zR} (hR : zMd R) {i : Nat} (h : 242 ≤ mdA i) : kAr (R 242 i) = true := by
  rw [hR i (by omega)]
  exact decide_eq_true h
theorem kRc_sw {R : zR} {a b : Nat} (h : kRc R) : kRc (zupR (zupR R 2 8 a) 2 9 b) := fun c i hc => by
  have e : c ≠ 2 := fun e => by subst e; exact absurd hc (by decide)
  have : zupR (zupR R 2 8 a) 2 9 b c i = R c i := by simp [zupR, e]
  rw [this]
  exact h c i hc
theorem zmx_self {A : Nat → Bool} {M : zM} : zmx A M M = M := by
  funext a
  unfold zmx
  by_cases h : A a = true
  · rw [if_pos h]
  · rw [if_neg h]
theorem zmx_no {A : Nat → Bool} {M N : zM} {a : Nat} (h : ¬ A a = true) : zmx A M N a = N a := if_neg h
section GO
variable {R : zR} {M M1 P Mg : zM} {L L1 : zL} {T S T1 S1 q : Nat} {ru : zRu}
/-- a call keeps to its own cells -/
theorem loc_fr {A : Nat → Bool} {f : zM → Option (Int32 × zM)} (loc : ∀ M N, f (zmx A M N) = Option.map (fun p => (p.1, zmx A p.2 N)) (f M)) {M : zM} {p : Int32 × zM} (e : f M = some p) {a : Nat} (ha : ¬ A a = true) : p.2 a = M a := by
  have h := loc M M
  rw [zmx_self, e, Option.map_some] at h
  injection h with h
  have h2 : p.2 = zmx A p.2 M := congrArg Prod.snd h
  rw [h2]
  exact zmx_no ha
theorem kC.eqC (C : kC R M q ru) (h : ∀ a, a < 242 → M1 a = M a) : kC R M1 q ru := ⟨C.1, C.2.1, C.2.2.1, C.2.2.2.1, C.cr.eq (fun b k p1 p2 p3 => by rw [h b (by have := C.qq; omega)])⟩
theorem kCt.eqN (h : kCt M) (e : ∀ a, a < 242 → M1 a = M a) : kCt M1 := fun r hr => by
  obtain ⟨n, hn, f⟩ := h r hr
  exact ⟨n, hn, by rw [e r (by have := hr.lt; omega)]; exact f⟩
theorem zNv.go {fr : zM → Option (Int32 × zM)} {v0 : Int32} (hrc : kRc R) (hc : kC R M1 q ru) (hn : kCt M1) (loc : ∀ M N, fr (zmx kAr M N) = Option.map (fun p => (p.1, zmx kAr p.2 N)) (fr M)) (e : gEq M1 P) (hg : zT (fr P) (fun p1 => p1.1 = v0 ∧ zOut R p1.2 T S)) : zT (fr M1) (fun p1 => p1.1 = v0 ∧ zNv R p1.2 T S ∧ ∀ a, a < 242 → p1.2 a = M1 a) := by
  obtain ⟨⟨w, P2⟩, ew, hv, ho⟩ := hg
  have eM : zmx kAr P M1 = M1 := funext fun a => by
    unfold zmx
    by_cases h : kAr a = true
    · rw [if_pos h]
      exact (e.1 a (of_decide_eq_true h)).symm
    · rw [if_neg h]
  have e1 : fr M1 = some (w, zmx kAr P2 M1) := by
    have h := loc P M1
    rw [eM, ew] at h
    exact h
  have lo : ∀ a, a < 242 → zmx kAr P2 M1 a = M1 a := fun a ha => zmx_no (fun z => absurd (of_decide_eq_true z) (by omega))
  have lP : ∀ a, a < 242 → P2 a = P a := fun a ha => loc_fr loc ew (fun z => absurd (of_decide_eq_true z) (by omega))
  refine zT_eq e1 ⟨hv, ⟨hrc, ⟨q, ru, hc.eqC lo⟩, hn.eqN lo, P2, ho, fun a ha => if_pos (decide_eq_true ha), ?_, ?_, ?_⟩, lo⟩
  · show zmx kAr P2 M1 4 = P2 4
    rw [lo 4 (by omega), lP 4 (by omega)]
    exact e.2.1
  · show zmx kAr P2 M1 3 1 = P2 3 1
    rw [lo 3 (by omega), lP 3 (by omega)]
    exact e.2.2.1
  · show zmx kAr P2 M1 2 10 = P2 2 10
    rw [lo 2 (by omega), lP 2 (by omega)]
    exact e.2.2.2
theorem zNv.call {fc fr : zM → Option (Int32 × zM)} (h : zNv R M T S) (hc : kC R M1 q ru) (hn : kCt M1) (f1 : gFr M M1) (loc : ∀ M N, fr (zmx kAr M N) = Option.map (fun p => (p.1, zmx kAr p.2 N)) (fr M))
    (hgh : ∀ Mg ru q l n u x, zSt R Mg ru q l n T S u x → zT (fc Mg) (fun p => gFr Mg p.2 ∧ zT (fr p.2) (fun p1 => p1.1 = p.1 ∧ zOut R p1.2 T1 S1))) : zT (fr M1) (fun p1 => zNv R p1.2 T1 S1 ∧ ∀ a, a < 242 → p1.2 a = M1 a) := by
  obtain ⟨hrc, -, -, Mg, ⟨ru1, q1, l, n, u, x, ho⟩, e⟩ := h
  obtain ⟨⟨v, P⟩, -, g, hg⟩ := hgh Mg ru1 q1 l n u x ho
  dsimp only at g hg
  refine zT_w (zNv.go hrc hc hn loc (P := P) ⟨fun a ha => ?_, ?_, ?_, ?_⟩ hg) (fun p1 hp => hp.2)
  · rw [f1 a (Or.inr ha), g a (Or.inr ha), e.1 a ha]
  · rw [f1 4 (by omega), g 4 (by omega), e.2.1]
  · rw [f1 3 (by omega), g 3 (by omega), e.2.2.1]
  · rw [f1 2 (by omega), g 2 (by omega), e.2.2.2]
theorem kW.gFr (h : kW M L M1 L1) : gFr M M1 := fun a ha => funext fun k => h.1 a k (by unfold kFp zsk; omega)
theorem kW.kCt (h : kW M L M1 L1) : kCt M1 := fun r hr => h.n hr
theorem kW.kC (h : kW M L M1 L1) (C : kC R M q ru) : kC R M1 q ru := ⟨C.1, C.2.1, C.2.2.1, C.2.2.2.1, h.cr C⟩
theorem zT_and {α : Type} {x : Option α} {Q Q1 : α → Prop} (h : zT x Q) (h1 : ∀ a, x = some a → Q1 a) : zT x (fun a => Q1 a ∧ Q a) := by
  obtain ⟨a, e, q⟩ := h
  exact ⟨a, e, h1 a e, q⟩
theorem gFr_of {f : zM → Option (Int32 × zM)} (loc : ∀ M N, f (zmx kAc M N) = Option.map (fun p => (p.1, zmx kAc p.2 N)) (f M)) {M : zM} {p : Int32 × zM} (e : f M = some p) : gFr M p.2 := fun a ha => loc_fr loc e (fun z => absurd (of_decide_eq_true z) (by omega))
theorem zAns.outF {u x n l : Nat} {fc : Option (Int32 × zM)} {fr : zM → Option (Int32 × zM)} (h : zSt R M ru q l n T S u x) (a : zAns R M ru q l n T S u x fc fr) : zT fc (fun p => gFr M p.2 ∧ zT (fr p.2) (fun p1 => p1.1 = p.1 ∧ zOut R p1.2 (T + 3000000) (S + 300))) := by
  refine zT_w a ?_
  rintro ⟨y, M1⟩ ⟨g1, k⟩
  refine ⟨fun a ha => funext fun k => g1 a k (by unfold zsk; omega), zT_w k ?_⟩
  rintro ⟨z, M2⟩ ⟨e, g2⟩
  exact ⟨e, (h.sc ((zsk.sc g1).tr (zsr.sc g2))).out (by omega) (by omega)⟩
theorem zSt.c2 {u x n l : Nat} (h : zSt R M ru q l n T S u x) : kAc (R 2 2) = true := by rw [h.x2]; decide
theorem zSt.c3 {u x n l : Nat} (h : zSt R M ru q l n T S u x) : kAc (R 2 3) = true := by rw [h.x3]; decide
theorem zSt.c7 {u x n l : Nat} (h : zSt R M ru q l n T S u x) : kAc (R 2 7) = true := by rw [h.xr.2.2.2.2.2.2.2]; decide
theorem zSt.c8 {u x n l : Nat} (h : zSt R M ru q l n T S u x) : kAc (R 2 8) = true := by
  rw [h.q8]
  rcases h.qq with e | e <;> rw [e] <;> decide
theorem lr_run (hR : zMd R) (x1 : Int32) (M N : zM) : f_X12_run R (zmx kAr M N) 242 x1 = Option.map (fun p => (p.1, zmx kAr p.2 N)) (f_X12_run R M 242 x1) := lc_f_X12_run (by decide) (kAr_f hR (by decide)) (kAr_f hR (by decide)) (kAr_f hR (by decide)) (kAr_f hR (by decide)) (kAr_f hR (by decide)) (kAr_f hR (by decide)) (kAr_f hR (by decide)) (kAr_f hR (by decide)) (kAr_f hR (by decide)) (kAr_f hR (by decide)) (kAr_f hR (by decide)) (kAr_f hR (by decide)) (kAr_f hR (by decide)) (kAr_f hR (by decide)) (kAr_f hR (by decide)) (kAr_f hR (by decide)) (kAr_f hR (by decide)) (kAr_f hR (by decide)) (kAr_f hR (by decide)) (kAr_f hR (by decide))
theorem lk_run {u x n l : Nat} (hrc : kRc R) (hs : zSt R Mg ru q l n T S u x) (x1 : Int32) (M N : zM) : f_X11_run R (zmx kAc M N) 2 x1 = Option.map (fun p => (p.1, zmx kAc p.2 N)) (f_X11_run R M 2 x1) := lc_f_X11_run hs.c2 hs.c3 hs.c8 hrc
theorem c_run (h : zNv R M T S) (hT : T + 3100000 < 2147483648) (hS : S + 400 < 2147483648) (L : zL) (x1 : Int32) : zT (n_X11_run R M L 2 x1) (fun p => (∀ b, b < 13 ∨ 242 ≤ b → p.2.2 b = L b) ∧ ((∀ k, p.2.1 21 k = M 21 k) ∧ p.2.1 281 = M 281) ∧ zT (f_X12_run R p.2.1 242 x1) (fun p1 => zNv R p1.2 (T + 3000000) (S + 300) ∧ ∀ a, a < 242 → p1.2 a = p.2.1 a)) := by
  obtain ⟨hrc, ⟨q, ru, C⟩, hn, -⟩ := id h
  refine zT_w (run_c C (kW.rf (L := L) hn) x1) ?_
  rintro p hp
  refine ⟨hp.2.1, ⟨fun k => hp.1 21 k (by unfold kFp zsk; omega), funext fun k => hp.1 281 k (by unfold kFp zsk; omega)⟩, h.call (fc := fun M => f_X11_run R M 2 x1) (fr := fun M => f_X12_run R M 242 x1) (hp.kC C) hp.kCt hp.gFr (lr_run C.1.1 x1) (fun Mg ru q l n u x hs => ?_)⟩
  exact zT_and (zRun hs hT hS x1) (fun p e => gFr_of (f := fun M => f_X11_run R M 2 x1) (lk_run hrc hs x1) e)
theorem lr_give (hR : zMd R) (x1 : Int32) (x2 : Int32) (x3 : Int32) (M N : zM) : f_X12_give R (zmx kAr M N) 242 x1 x2 x3 = Option.map (fun p => (p.1, zmx kAr p.2 N)) (f_X12_give R M 242 x1 x2 x3) := lc_f_X12_give (by decide) (kAr_f hR (by decide)) (kAr_f hR (by decide)) (kAr_f hR (by decide))
theorem lk_give {u x n l : Nat} (hrc : kRc R) (hs : zSt R Mg ru q l n T S u x) (x1 : Int32) (x2 : Int32) (x3 : Int32) (M N : zM) : f_X11_give R (zmx kAc M N) 2 x1 x2 x3 = Option.map (fun p => (p.1, zmx kAc p.2 N)) (f_X11_give R M 2 x1 x2 x3) := lc_f_X11_give hs.c2 hs.c3 hrc
theorem c_give (h : zNv R M T S) (hT : T + 3100000 < 2147483648) (hS : S + 400 < 2147483648) (L : zL) (x1 : Int32) (x2 : Int32) (x3 : Int32) : zT (n_X11_give R M L 2 x1 x2 x3) (fun p => (∀ b, b < 13 ∨ 242 ≤ b → p.2.2 b = L b) ∧ ((∀ k, p.2.1 21 k = M 21 k) ∧ p.2.1 281 = M 281) ∧ zT (f_X12_give R p.2.1 242 x1 x2 x3) (fun p1 => zNv R p1.2 (T + 3000000) (S + 300) ∧ ∀ a, a < 242 → p1.2 a = p.2.1 a)) := by
  obtain ⟨hrc, ⟨q, ru, C⟩, hn, -⟩ := id h
  refine zT_w (give_c C (kW.rf (L := L) hn) x1 x2 x3) ?_
  rintro p hp
  refine ⟨hp.2.1, ⟨fun k => hp.1 21 k (by unfold kFp zsk; omega), funext fun k => hp.1 281 k (by unfold kFp zsk; omega)⟩, h.call (fc := fun M => f_X11_give R M 2 x1 x2 x3) (fr := fun M => f_X12_give R M 242 x1 x2 x3) (hp.kC C) hp.kCt hp.gFr (lr_give C.1.1 x1 x2 x3) (fun Mg ru q l n u x hs => ?_)⟩
  exact zT_and (zGive hs hT hS x1 x2 x3) (fun p e => gFr_of (f := fun M => f_X11_give R M 2 x1 x2 x3) (lk_give hrc hs x1 x2 x3) e)
theorem lr_hide (hR : zMd R) (x1 : Int32) (x2 : Int32) (M N : zM) : f_X12_hide R (zmx kAr M N) 242 x1 x2 = Option.map (fun p => (p.1, zmx kAr p.2 N)) (f_X12_hide R M 242 x1 x2) := lc_f_X12_hide (by decide) (kAr_f hR (by decide)) (kAr_f hR (by decide)) (kAr_f hR (by decide))
theorem lk_hide {u x n l : Nat} (hrc : kRc R) (hs : zSt R Mg ru q l n T S u x) (x1 : Int32) (x2 : Int32) (M N : zM) : f_X11_hide R (zmx kAc M N) 2 x1 x2 = Option.map (fun p => (p.1, zmx kAc p.2 N)) (f_X11_hide R M 2 x1 x2) := lc_f_X11_hide hs.c2 hs.c3 hrc
theorem c_hide (h : zNv R M T S) (hT : T + 3100000 < 2147483648) (hS : S + 400 < 2147483648) (L : zL) (x1 : Int32) (x2 : Int32) : zT (n_X11_hide R M L 2 x1 x2) (fun p => (∀ b, b < 13 ∨ 242 ≤ b → p.2.2 b = L b) ∧ ((∀ k, p.2.1 21 k = M 21 k) ∧ p.2.1 281 = M 281) ∧ zT (f_X12_hide R p.2.1 242 x1 x2) (fun p1 => zNv R p1.2 (T + 3000000) (S + 300) ∧ ∀ a, a < 242 → p1.2 a = p.2.1 a)) := by
  obtain ⟨hrc, ⟨q, ru, C⟩, hn, -⟩ := id h
  refine zT_w (hide_c C (kW.rf (L := L) hn) x1 x2) ?_
  rintro p hp
  refine ⟨hp.2.1, ⟨fun k => hp.1 21 k (by unfold kFp zsk; omega), funext fun k => hp.1 281 k (by unfold kFp zsk; omega)⟩, h.call (fc := fun M => f_X11_hide R M 2 x1 x2) (fr := fun M => f_X12_hide R M 242 x1 x2) (hp.kC C) hp.kCt hp.gFr (lr_hide C.1.1 x1 x2) (fun Mg ru q l n u x hs => ?_)⟩
  exact zT_and (zHide hs hT hS x1 x2) (fun p e => gFr_of (f := fun M => f_X11_hide R M 2 x1 x2) (lk_hide hrc hs x1 x2) e)
theorem lr_grab (hR : zMd R) (x1 : Int32) (M N : zM) : f_X12_grab R (zmx kAr M N) 242 x1 = Option.map (fun p => (p.1, zmx kAr p.2 N)) (f_X12_grab R M 242 x1) := lc_f_X12_grab (by decide) (kAr_f hR (by decide)) (kAr_f hR (by decide)) (kAr_f hR (by decide))
theorem lk_grab {u x n l : Nat} (hrc : kRc R) (hs : zSt R Mg ru q l n T S u x) (x1 : Int32) (M N : zM) : f_X11_grab R (zmx kAc M N) 2 x1 = Option.map (fun p => (p.1, zmx kAc p.2 N)) (f_X11_grab R M 2 x1) := lc_f_X11_grab hs.c2 hs.c3 hrc
theorem c_grab (h : zNv R M T S) (hT : T + 3100000 < 2147483648) (hS : S + 400 < 2147483648) (L : zL) (x1 : Int32) : zT (n_X11_grab R M L 2 x1) (fun p => (∀ b, b < 13 ∨ 242 ≤ b → p.2.2 b = L b) ∧ ((∀ k, p.2.1 21 k = M 21 k) ∧ p.2.1 281 = M 281) ∧ zT (f_X12_grab R p.2.1 242 x1) (fun p1 => zNv R p1.2 (T + 3000000) (S + 300) ∧ ∀ a, a < 242 → p1.2 a = p.2.1 a)) := by
  obtain ⟨hrc, ⟨q, ru, C⟩, hn, -⟩ := id h
  refine zT_w (grab_c C (kW.rf (L := L) hn) x1) ?_
  rintro p hp
  refine ⟨hp.2.1, ⟨fun k => hp.1 21 k (by unfold kFp zsk; omega), funext fun k => hp.1 281 k (by unfold kFp zsk; omega)⟩, h.call (fc := fun M => f_X11_grab R M 2 x1) (fr := fun M => f_X12_grab R M 242 x1) (hp.kC C) hp.kCt hp.gFr (lr_grab C.1.1 x1) (fun Mg ru q l n u x hs => ?_)⟩
  exact zT_and (zGrab hs hT hS x1) (fun p e => gFr_of (f := fun M => f_X11_grab R M 2 x1) (lk_grab hrc hs x1) e)
theorem lr_build (hR : zMd R) (x1 : Int32) (x2 : Int32) (M N : zM) : f_X12_build R (zmx kAr M N) 242 x1 x2 = Option.map (fun p => (p.1, zmx kAr p.2 N)) (f_X12_build R M 242 x1 x2) := lc_f_X12_build (by decide) (kAr_f hR (by decide)) (kAr_f hR (by decide)) (kAr_f hR (by decide))
theorem lk_build {u x n l : Nat} (hrc : kRc R) (hs : zSt R Mg ru q l n T S u x) (x1 : Int32) (x2 : Int32) (M N : zM) : f_X11_build R (zmx kAc M N) 2 x1 x2 = Option.map (fun p => (p.1, zmx kAc p.2 N)) (f_X11_build R M 2 x1 x2) := lc_f_X11_build hs.c2 hs.c3 hrc
theorem c_build (h : zNv R M T S) (hT : T + 3100000 < 2147483648) (hS : S + 400 < 2147483648) (L : zL) (x1 : Int32) (x2 : Int32) : zT (n_X11_build R M L 2 x1 x2) (fun p => (∀ b, b < 13 ∨ 242 ≤ b → p.2.2 b = L b) ∧ ((∀ k, p.2.1 21 k = M 21 k) ∧ p.2.1 281 = M 281) ∧ zT (f_X12_build R p.2.1 242 x1 x2) (fun p1 => zNv R p1.2 (T + 3000000) (S + 300) ∧ ∀ a, a < 242 → p1.2 a = p.2.1 a)) := by
  obtain ⟨hrc, ⟨q, ru, C⟩, hn, -⟩ := id h
  refine zT_w (build_c C (kW.rf (L := L) hn) x1 x2) ?_
  rintro p hp
  refine ⟨hp.2.1, ⟨fun k => hp.1 21 k (by unfold kFp zsk; omega), funext fun k => hp.1 281 k (by unfold kFp zsk; omega)⟩, h.call (fc := fun M => f_X11_build R M 2 x1 x2) (fr := fun M => f_X12_build R M 242 x1 x2) (hp.kC C) hp.kCt hp.gFr (lr_build C.1.1 x1 x2) (fun Mg ru q l n u x hs => ?_)⟩
  exact zT_and (zBuild hs hT hS x1 x2) (fun p e => gFr_of (f := fun M => f_X11_build R M 2 x1 x2) (lk_build hrc hs x1 x2) e)
theorem lr_burn (hR : zMd R) (x1 : Int32) (M N : zM) : f_X12_burn R (zmx kAr M N) 242 x1 = Option.map (fun p => (p.1, zmx kAr p.2 N)) (f_X12_burn R M 242 x1) := lc_f_X12_burn (by decide) (kAr_f hR (by decide)) (kAr_f hR (by decide)) (kAr_f hR (by decide))
theorem lk_burn {u x n l : Nat} (hrc : kRc R) (hs : zSt R Mg ru q l n T S u x) (x1 : Int32) (M N : zM) : f_X11_burn R (zmx kAc M N) 2 x1 = Option.map (fun p => (p.1, zmx kAc p.2 N)) (f_X11_burn R M 2 x1) := lc_f_X11_burn hs.c2 hs.c3 hrc
theorem c_burn (h : zNv R M T S) (hT : T + 3100000 < 2147483648) (hS : S + 400 < 2147483648) (L : zL) (x1 : Int32) : zT (n_X11_burn R M L 2 x1) (fun p => (∀ b, b < 13 ∨ 242 ≤ b → p.2.2 b = L b) ∧ ((∀ k, p.2.1 21 k = M 21 k) ∧ p.2.1 281 = M 281) ∧ zT (f_X12_burn R p.2.1 242 x1) (fun p1 => zNv R p1.2 (T + 3000000) (S + 300) ∧ ∀ a, a < 242 → p1.2 a = p.2.1 a)) := by
  obtain ⟨hrc, ⟨q, ru, C⟩, hn, -⟩ := id h
  refine zT_w (burn_c C (kW.rf (L := L) hn) x1) ?_
  rintro p hp
  refine ⟨hp.2.1, ⟨fun k => hp.1 21 k (by unfold kFp zsk; omega), funext fun k => hp.1 281 k (by unfold kFp zsk; omega)⟩, h.call (fc := fun M => f_X11_burn R M 2 x1) (fr := fun M => f_X12_burn R M 242 x1) (hp.kC C) hp.kCt hp.gFr (lr_burn C.1.1 x1) (fun Mg ru q l n u x hs => ?_)⟩
  exact zT_and (zBurn hs hT hS x1) (fun p e => gFr_of (f := fun M => f_X11_burn R M 2 x1) (lk_burn hrc hs x1) e)
theorem lr_join (hR : zMd R) (x1 : Int32) (M N : zM) : f_X12_join R (zmx kAr M N) 242 x1 = Option.map (fun p => (p.1, zmx kAr p.2 N)) (f_X12_join R M 242 x1) := lc_f_X12_join (by decide) (kAr_f hR (by decide)) (kAr_f hR (by decide)) (kAr_f hR (by decide)) (kAr_f hR (by decide))
theorem lk_join {u x n l : Nat} (hrc : kRc R) (hs : zSt R Mg ru q l n T S u x) (x1 : Int32) (M N : zM) : f_X11_join R (zmx kAc M N) 2 x1 = Option.map (fun p => (p.1, zmx kAc p.2 N)) (f_X11_join R M 2 x1) := lc_f_X11_join hs.c2 hs.c3 hs.c8 hrc
theorem c_join (h : zNv R M T S) (hT : T + 3100000 < 2147483648) (hS : S + 400 < 2147483648) (L : zL) (x1 : Int32) : zT (n_X11_join R M L 2 x1) (fun p => (∀ b, b < 13 ∨ 242 ≤ b → p.2.2 b = L b) ∧ ((∀ k, p.2.1 21 k = M 21 k) ∧ p.2.1 281 = M 281) ∧ zT (f_X12_join R p.2.1 242 x1) (fun p1 => zNv R p1.2 (T + 3000000) (S + 300) ∧ ∀ a, a < 242 → p1.2 a = p.2.1 a)) := by
  obtain ⟨hrc, ⟨q, ru, C⟩, hn, -⟩ := id h
  refine zT_w (join_c C (kW.rf (L := L) hn) x1) ?_
  rintro p hp
  refine ⟨hp.2.1, ⟨fun k => hp.1 21 k (by unfold kFp zsk; omega), funext fun k => hp.1 281 k (by unfold kFp zsk; omega)⟩, h.call (fc := fun M => f_X11_join R M 2 x1) (fr := fun M => f_X12_join R M 242 x1) (hp.kC C) hp.kCt hp.gFr (lr_join C.1.1 x1) (fun Mg ru q l n u x hs => ?_)⟩
  exact zT_and (zJoin hs hT hS x1) (fun p e => gFr_of (f := fun M => f_X11_join R M 2 x1) (lk_join hrc hs x1) e)
theorem lr_undo (hR : zMd R) (M N : zM) : f_X12_undo R (zmx kAr M N) 242 = Option.map (fun p => (p.1, zmx kAr p.2 N)) (f_X12_undo R M 242) := lc_f_X12_undo (by decide) (kAr_f hR (by decide)) (kAr_f hR (by decide))
theorem lk_undo {u x n l : Nat} (hrc : kRc R) (hs : zSt R Mg ru q l n T S u x) (M N : zM) : f_X11_undo R (zmx kAc M N) 2 = Option.map (fun p => (p.1, zmx kAc p.2 N)) (f_X11_undo R M 2) := lc_f_X11_undo hs.c2 hs.c3 hrc
theorem c_undo (h : zNv R M T S) (hT : T + 3100000 < 2147483648) (hS : S + 400 < 2147483648) (L : zL) : zT (n_X11_undo R M L 2) (fun p => (∀ b, b < 13 ∨ 242 ≤ b → p.2.2 b = L b) ∧ ((∀ k, p.2.1 21 k = M 21 k) ∧ p.2.1 281 = M 281) ∧ zT (f_X12_undo R p.2.1 242) (fun p1 => zNv R p1.2 (T + 3000000) (S + 300) ∧ ∀ a, a < 242 → p1.2 a = p.2.1 a)) := by
  obtain ⟨hrc, ⟨q, ru, C⟩, hn, -⟩ := id h
  refine zT_w (undo_c C (kW.rf (L := L) hn)) ?_
  rintro p hp
  refine ⟨hp.2.1, ⟨fun k => hp.1 21 k (by unfold kFp zsk; omega), funext fun k => hp.1 281 k (by unfold kFp zsk; omega)⟩, h.call (fc := fun M => f_X11_undo R M 2) (fr := fun M => f_X12_undo R M 242) (hp.kC C) hp.kCt hp.gFr (lr_undo C.1.1) (fun Mg ru q l n u x hs => ?_)⟩
  exact zT_and (zUndoO hs) (fun p e => gFr_of (f := fun M => f_X11_undo R M 2) (lk_undo hrc hs) e)
theorem lr_restore (hR : zMd R) (x1 : Int32) (M N : zM) : f_X12_restore R (zmx kAr M N) 242 x1 = Option.map (fun p => (p.1, zmx kAr p.2 N)) (f_X12_restore R M 242 x1) := lc_f_X12_restore (by decide) (kAr_f hR (by decide)) (kAr_f hR (by decide)) (kAr_f hR (by decide))
theorem lk_restore {u x n l : Nat} (hrc : kRc R) (hs : zSt R Mg ru q l n T S u x) (x1 : Int32) (M N : zM) : f_X11_restore R (zmx kAc M N) 2 x1 = Option.map (fun p => (p.1, zmx kAc p.2 N)) (f_X11_restore R M 2 x1) := lc_f_X11_restore hs.c2 hs.c3 hrc
theorem c_restore (h : zNv R M T S) (hT : T + 3100000 < 2147483648) (hS : S + 400 < 2147483648) (L : zL) (x1 : Int32) : zT (n_X11_restore R M L 2 x1) (fun p => (∀ b, b < 13 ∨ 242 ≤ b → p.2.2 b = L b) ∧ ((∀ k, p.2.1 21 k = M 21 k) ∧ p.2.1 281 = M 281) ∧ zT (f_X12_restore R p.2.1 242 x1) (fun p1 => zNv R p1.2 (T + 3000000) (S + 300) ∧ ∀ a, a < 242 → p1.2 a = p.2.1 a)) := by
  obtain ⟨hrc, ⟨q, ru, C⟩, hn, -⟩ := id h
  refine zT_w (restore_c C (kW.rf (L := L) hn) x1) ?_
  rintro p hp
  refine ⟨hp.2.1, ⟨fun k => hp.1 21 k (by unfold kFp zsk; omega), funext fun k => hp.1 281 k (by unfold kFp zsk; omega)⟩, h.call (fc := fun M => f_X11_restore R M 2 x1) (fr := fun M => f_X12_restore R M 242 x1) (hp.kC C) hp.kCt hp.gFr (lr_restore C.1.1 x1) (fun Mg ru q l n u x hs => ?_)⟩
  exact zT_and (zRestoreO hs x1) (fun p e => gFr_of (f := fun M => f_X11_restore R M 2 x1) (lk_restore hrc hs x1) e)
theorem lr_house (hR : zMd R) (x1 : Int32) (x2 : Int32) (M N : zM) : f_X12_house R (zmx kAr M N) 242 x1 x2 = Option.map (fun p => (p.1, zmx kAr p.2 N)) (f_X12_house R M 242 x1 x2) := lc_f_X12_house (by decide) (kAr_f hR (by decide)) (kAr_f hR (by decide)) (kAr_f hR (by decide)) (kAr_f hR (by decide)) (kAr_f hR (by decide)) (kAr_f hR (by decide)) (kAr_f hR (by decide)) (kAr_f hR (by decide)) (kAr_f hR (by decide)) (kAr_f hR (by decide)) (kAr_f hR (by decide)) (kAr_f hR (by decide)) (kAr_f hR (by decide)) (kAr_f hR (by decide)) (kAr_f hR (by decide))
theorem lk_house {u x n l : Nat} (hrc : kRc R) (hs : zSt R Mg ru q l n T S u x) (x1 : Int32) (x2 : Int32) (M N : zM) : f_X11_house R (zmx kAc M N) 2 x1 x2 = Option.map (fun p => (p.1, zmx kAc p.2 N)) (f_X11_house R M 2 x1 x2) := lc_f_X11_house hs.c2 hs.c8 hrc
theorem c_house (h : zNv R M T S) (hT : T + 3100000 < 2147483648) (hS : S + 400 < 2147483648) (L : zL) (x1 : Int32) (x2 : Int32) : zT (n_X11_house R M L 2 x1 x2) (fun p => ((∀ k, p.2 21 k = M 21 k) ∧ p.2 281 = M 281) ∧ zT (f_X12_house R p.2 242 x1 x2) (fun p1 => zNv R p1.2 (T + 3000000) (S + 300) ∧ ∀ a, a < 242 → p1.2 a = p.2 a)) := by
  obtain ⟨hrc, ⟨q, ru, C⟩, hn, -⟩ := id h
  refine zT_w (house_c C (kW.rf (L := L) hn) x1 x2) ?_
  rintro p hp
  refine ⟨⟨fun k => hp.1 21 k (by unfold kFp zsk; omega), funext fun k => hp.1 281 k (by unfold kFp zsk; omega)⟩, h.call (fc := fun M => f_X11_house R M 2 x1 x2) (fr := fun M => f_X12_house R M 242 x1 x2) (hp.kC C) hp.kCt hp.gFr (lr_house C.1.1 x1 x2) (fun Mg ru q l n u x hs => ?_)⟩
  exact zT_and (zHouseO hs hT x1 x2) (fun p e => gFr_of (f := fun M => f_X11_house R M 2 x1 x2) (lk_house hrc hs x1 x2) e)
theorem lr_becomes (hR : zMd R) (x1 : Int32) (M N : zM) : f_X12_becomes R (zmx kAr M N) 242 x1 = Option.map (fun p => (p.1, zmx kAr p.2 N)) (f_X12_becomes R M 242 x1) := lc_f_X12_becomes (by decide) (kAr_f hR (by decide)) (kAr_f hR (by decide)) (kAr_f hR (by decide)) (kAr_f hR (by decide)) (kAr_f hR (by decide)) (kAr_f hR (by decide)) (kAr_f hR (by decide)) (kAr_f hR (by decide)) (kAr_f hR (by decide)) (kAr_f hR (by decide)) (kAr_f hR (by decide)) (kAr_f hR (by decide)) (kAr_f hR (by decide)) (kAr_f hR (by decide)) (kAr_f hR (by decide)) (kAr_f hR (by decide)) (kAr_f hR (by decide)) (kAr_f hR (by decide)) (kAr_f hR (by decide)) (kAr_f hR (by decide))
theorem c_becomes (h : zNv R M T S) (hT : T + 3100000 < 2147483648) (hS : S + 400 < 2147483648) (L : zL) (x1 : Int32) : zT (n_X11_becomes R M L 2 x1) (fun p => (∀ b, b < 13 ∨ 242 ≤ b → p.2.2 b = L b) ∧ ((∀ k, p.2.1 21 k = M 21 k) ∧ p.2.1 281 = M 281) ∧ zT (f_X12_becomes R p.2.1 242 x1) (fun p1 => zNv R p1.2 (T + 3000000) (S + 300) ∧ ∀ a, a < 242 → p1.2 a = p.2.1 a)) := by
  obtain ⟨hrc, ⟨q, ru, C⟩, hn, -⟩ := id h
  refine zT_w (becomes_c C (kW.rf (L := L) hn) x1) ?_
  rintro p hp
  refine ⟨hp.2.1, ⟨fun k => hp.1 21 k (by unfold kFp zsk; omega), funext fun k => hp.1 281 k (by unfold kFp zsk; omega)⟩, h.call (fc := fun M => f_X11_becomes R M 2 x1) (fr := fun M => f_X12_becomes R M 242 x1) (hp.kC C) hp.kCt hp.gFr (lr_becomes C.1.1 x1) (fun Mg ru q l n u x hs => ?_)⟩
  exact zAns.outF hs (zBecomes hs hT hS x1)
theorem lr_apart (hR : zMd R) (x1 : Int32) (M N : zM) : f_X12_apart R (zmx kAr M N) 242 x1 = Option.map (fun p => (p.1, zmx kAr p.2 N)) (f_X12_apart R M 242 x1) := lc_f_X12_apart (by decide) (kAr_f hR (by decide)) (kAr_f hR (by decide)) (kAr_f hR (by decide)) (kAr_f hR (by decide)) (kAr_f hR (by decide)) (kAr_f hR (by decide)) (kAr_f hR (by decide)) (kAr_f hR (by decide)) (kAr_f hR (by decide)) (kAr_f hR (by decide)) (kAr_f hR (by decide)) (kAr_f hR (by decide)) (kAr_f hR (by decide)) (kAr_f hR (by decide)) (kAr_f hR (by decide)) (kAr_f hR (by decide)) (kAr_f hR (by decide)) (kAr_f hR (by decide)) (kAr_f hR (by decide))
theorem c_apart (h : zNv R M T S) (hT : T + 3100000 < 2147483648) (hS : S + 400 < 2147483648) (L : zL) (x1 : Int32) : zT (n_X11_apart R M L 2 x1) (fun p => (∀ b, b < 13 ∨ 242 ≤ b → p.2.2 b = L b) ∧ ((∀ k, p.2.1 21 k = M 21 k) ∧ p.2.1 281 = M 281) ∧ zT (f_X12_apart R p.2.1 242 x1) (fun p1 => zNv R p1.2 (T + 3000000) (S + 300) ∧ ∀ a, a < 242 → p1.2 a = p.2.1 a)) := by
  obtain ⟨hrc, ⟨q, ru, C⟩, hn, -⟩ := id h
  refine zT_w (apart_c C (kW.rf (L := L) hn) x1) ?_
  rintro p hp
  refine ⟨hp.2.1, ⟨fun k => hp.1 21 k (by unfold kFp zsk; omega), funext fun k => hp.1 281 k (by unfold kFp zsk; omega)⟩, h.call (fc := fun M => f_X11_apart R M 2 x1) (fr := fun M => f_X12_apart R M 242 x1) (hp.kC C) hp.kCt hp.gFr (lr_apart C.1.1 x1) (fun Mg ru q l n u x hs => ?_)⟩
  exact zAns.outF hs (zApart hs hT hS x1)
theorem lr_even (hR : zMd R) (x1 : Int32) (x2 : Int32) (M N : zM) : f_X12_even R (zmx kAr M N) 242 x1 x2 = Option.map (fun p => (p.1, zmx kAr p.2 N)) (f_X12_even R M 242 x1 x2) := lc_f_X12_even (by decide) (kAr_f hR (by decide)) (kAr_f hR (by decide)) (kAr_f hR (by decide)) (kAr_f hR (by decide)) (kAr_f hR (by decide)) (kAr_f hR (by decide)) (kAr_f hR (by decide)) (kAr_f hR (by decide)) (kAr_f hR (by decide)) (kAr_f hR (by decide)) (kAr_f hR (by decide)) (kAr_f hR (by decide)) (kAr_f hR (by decide)) (kAr_f hR (by decide)) (kAr_f hR (by decide)) (kAr_f hR (by decide)) (kAr_f hR (by decide)) (kAr_f hR (by decide))
theorem c_even (h : zNv R M T S) (hT : T + 3100000 < 2147483648) (hS : S + 400 < 2147483648) (L : zL) (x1 : Int32) (x2 : Int32) : zT (n_X11_even R M L 2 x1 x2) (fun p => (∀ b, b < 13 ∨ 242 ≤ b → p.2.2 b = L b) ∧ ((∀ k, p.2.1 21 k = M 21 k) ∧ p.2.1 281 = M 281) ∧ zT (f_X12_even R p.2.1 242 x1 x2) (fun p1 => zNv R p1.2 (T + 3000000) (S + 300) ∧ ∀ a, a < 242 → p1.2 a = p.2.1 a)) := by
  obtain ⟨hrc, ⟨q, ru, C⟩, hn, -⟩ := id h
  refine zT_w (even_c C (kW.rf (L := L) hn) x1 x2) ?_
  rintro p hp
  refine ⟨hp.2.1, ⟨fun k => hp.1 21 k (by unfold kFp zsk; omega), funext fun k => hp.1 281 k (by unfold kFp zsk; omega)⟩, h.call (fc := fun M => f_X11_even R M 2 x1 x2) (fr := fun M => f_X12_even R M 242 x1 x2) (hp.kC C) hp.kCt hp.gFr (lr_even C.1.1 x1 x2) (fun Mg ru q l n u x hs => ?_)⟩
  exact zAns.outF hs (zEven hs hT hS x1 x2)
theorem lr_soonest (hR : zMd R) (x1 : Int32) (M N : zM) : f_X12_soonest R (zmx kAr M N) 242 x1 = Option.map (fun p => (p.1, zmx kAr p.2 N)) (f_X12_soonest R M 242 x1) := lc_f_X12_soonest (by decide) (kAr_f hR (by decide)) (kAr_f hR (by decide)) (kAr_f hR (by decide)) (kAr_f hR (by decide)) (kAr_f hR (by decide)) (kAr_f hR (by decide)) (kAr_f hR (by decide)) (kAr_f hR (by decide)) (kAr_f hR (by decide)) (kAr_f hR (by decide)) (kAr_f hR (by decide)) (kAr_f hR (by decide)) (kAr_f hR (by decide)) (kAr_f hR (by decide)) (kAr_f hR (by decide)) (kAr_f hR (by decide)) (kAr_f hR (by decide)) (kAr_f hR (by decide))
theorem c_soonest (h : zNv R M T S) (hT : T + 3100000 < 2147483648) (hS : S + 400 < 2147483648) (L : zL) (x1 : Int32) : zT (n_X11_soonest R M L 2 x1) (fun p => (∀ b, b < 13 ∨ 242 ≤ b → p.2.2 b = L b) ∧ ((∀ k, p.2.1 21 k = M 21 k) ∧ p.2.1 281 = M 281) ∧ zT (f_X12_soonest R p.2.1 242 x1) (fun p1 => zNv R p1.2 (T + 3000000) (S + 300) ∧ ∀ a, a < 242 → p1.2 a = p.2.1 a)) := by
  obtain ⟨hrc, ⟨q, ru, C⟩, hn, -⟩ := id h
  refine zT_w (soonest_c C (kW.rf (L := L) hn) x1) ?_
  rintro p hp
  refine ⟨hp.2.1, ⟨fun k => hp.1 21 k (by unfold kFp zsk; omega), funext fun k => hp.1 281 k (by unfold kFp zsk; omega)⟩, h.call (fc := fun M => f_X11_soonest R M 2 x1) (fr := fun M => f_X12_soonest R M 242 x1) (hp.kC C) hp.kCt hp.gFr (lr_soonest C.1.1 x1) (fun Mg ru q l n u x hs => ?_)⟩
  exact zAns.outF hs (zSoonest hs hT hS x1)
theorem lr_start (hR : zMd R) (x1 : Int32) (x2 : Int32) (M N : zM) : f_X12_start R (zmx kAr M N) 242 x1 x2 = Option.map (fun p => (p.1, zmx kAr p.2 N)) (f_X12_start R M 242 x1 x2) := lc_f_X12_start (by decide) (kAr_f hR (by decide)) (kAr_f hR (by decide)) (kAr_f hR (by decide)) (kAr_f hR (by decide)) (kAr_f hR (by decide)) (kAr_f hR (by decide)) (kAr_f hR (by decide)) (kAr_f hR (by decide)) (kAr_f hR (by decide)) (kAr_f hR (by decide)) (kAr_f hR (by decide)) (kAr_f hR (by decide)) (kAr_f hR (by decide)) (kAr_f hR (by decide)) (kAr_f hR (by decide)) (kAr_f hR (by decide))
theorem c_start (h : zNv R M T S) (hT : T + 3100000 < 2147483648) (hS : S + 400 < 2147483648) (L : zL) (x1 : Int32) (x2 : Int32) : zT (n_X11_start R M L 2 x1 x2) (fun p => (∀ b, b < 13 ∨ 242 ≤ b → p.2.2 b = L b) ∧ ((∀ k, p.2.1 21 k = M 21 k) ∧ p.2.1 281 = M 281) ∧ zT (f_X12_start R p.2.1 242 x1 x2) (fun p1 => zNv R p1.2 (T + 3000000) (S + 300) ∧ ∀ a, a < 242 → p1.2 a = p.2.1 a)) := by
  obtain ⟨hrc, ⟨q, ru, C⟩, hn, -⟩ := id h
  refine zT_w (start_c C (kW.rf (L := L) hn) x1 x2) ?_
  rintro p hp
  refine ⟨hp.2.1, ⟨fun k => hp.1 21 k (by unfold kFp zsk; omega), funext fun k => hp.1 281 k (by unfold kFp zsk; omega)⟩, h.call (fc := fun M => f_X11_start R M 2 x1 x2) (fr := fun M => f_X12_start R M 242 x1 x2) (hp.kC C) hp.kCt hp.gFr (lr_start C.1.1 x1 x2) (fun Mg ru q l n u x hs => ?_)⟩
  exact zAns.outF hs (zStart hs hT hS x1 x2)
theorem lr_wealth (hR : zMd R) (x1 : Int32) (x2 : Int32) (x3 : Int32) (M N : zM) : f_X12_wealth R (zmx kAr M N) 242 x1 x2 x3 = Option.map (fun p => (p.1, zmx kAr p.2 N)) (f_X12_wealth R M 242 x1 x2 x3) := lc_f_X12_wealth (by decide) (kAr_f hR (by decide)) (kAr_f hR (by decide)) (kAr_f hR (by decide)) (kAr_f hR (by decide)) (kAr_f hR (by decide)) (kAr_f hR (by decide)) (kAr_f hR (by decide)) (kAr_f hR (by decide)) (kAr_f hR (by decide)) (kAr_f hR (by decide)) (kAr_f hR (by decide)) (kAr_f hR (by decide)) (kAr_f hR (by decide)) (kAr_f hR (by decide)) (kAr_f hR (by decide)) (kAr_f hR (by decide)) (kAr_f hR (by decide)) (kAr_f hR (by decide)) (kAr_f hR (by decide))
theorem c_wealth (h : zNv R M T S) (hT : T + 3100000 < 2147483648) (hS : S + 400 < 2147483648) (L : zL) (x1 : Int32) (x2 : Int32) (x3 : Int32) : zT (n_X11_wealth R M L 2 x1 x2 x3) (fun p => (∀ b, b < 13 ∨ 242 ≤ b → p.2.2 b = L b) ∧ ((∀ k, p.2.1 21 k = M 21 k) ∧ p.2.1 281 = M 281) ∧ zT (f_X12_wealth R p.2.1 242 x1 x2 x3) (fun p1 => zNv R p1.2 (T + 3000000) (S + 300) ∧ ∀ a, a < 242 → p1.2 a = p.2.1 a)) := by
  obtain ⟨hrc, ⟨q, ru, C⟩, hn, -⟩ := id h
  refine zT_w (wealth_c C (kW.rf (L := L) hn) x1 x2 x3) ?_
  rintro p hp
  refine ⟨hp.2.1, ⟨fun k => hp.1 21 k (by unfold kFp zsk; omega), funext fun k => hp.1 281 k (by unfold kFp zsk; omega)⟩, h.call (fc := fun M => f_X11_wealth R M 2 x1 x2 x3) (fr := fun M => f_X12_wealth R M 242 x1 x2 x3) (hp.kC C) hp.kCt hp.gFr (lr_wealth C.1.1 x1 x2 x3) (fun Mg ru q l n u x hs => ?_)⟩
  exact zAns.outF hs (zWealth hs hT hS x1 x2 x3)
theorem lr_free (hR : zMd R) (x1 : Int32) (x2 : Int32) (M N : zM) : f_X12_free R (zmx kAr M N) 242 x1 x2 = Option.map (fun p => (p.1, zmx kAr p.2 N)) (f_X12_free R M 242 x1 x2) := lc_f_X12_free (by decide) (kAr_f hR (by decide)) (kAr_f hR (by decide)) (kAr_f hR (by decide)) (kAr_f hR (by decide)) (kAr_f hR (by decide)) (kAr_f hR (by decide)) (kAr_f hR (by decide)) (kAr_f hR (by decide)) (kAr_f hR (by decide)) (kAr_f hR (by decide)) (kAr_f hR (by decide)) (kAr_f hR (by decide)) (kAr_f hR (by decide)) (kAr_f hR (by decide)) (kAr_f hR (by decide))
theorem c_free (h : zNv R M T S) (hT : T + 3100000 < 2147483648) (hS : S + 400 < 2147483648) (L : zL) (x1 : Int32) (x2 : Int32) : zT (n_X11_free R M L 2 x1 x2) (fun p => (∀ b, b < 13 ∨ 242 ≤ b → p.2.2 b = L b) ∧ ((∀ k, p.2.1 21 k = M 21 k) ∧ p.2.1 281 = M 281) ∧ zT (f_X12_free R p.2.1 242 x1 x2) (fun p1 => zNv R p1.2 (T + 3000000) (S + 300) ∧ ∀ a, a < 242 → p1.2 a = p.2.1 a)) := by
  obtain ⟨hrc, ⟨q, ru, C⟩, hn, -⟩ := id h
  refine zT_w (free_c C (kW.rf (L := L) hn) x1 x2) ?_
  rintro p hp
  refine ⟨hp.2.1, ⟨fun k => hp.1 21 k (by unfold kFp zsk; omega), funext fun k => hp.1 281 k (by unfold kFp zsk; omega)⟩, h.call (fc := fun M => f_X11_free R M 2 x1 x2) (fr := fun M => f_X12_free R M 242 x1 x2) (hp.kC C) hp.kCt hp.gFr (lr_free C.1.1 x1 x2) (fun Mg ru q l n u x hs => ?_)⟩
  exact zAns.outF hs (zFree hs hT x1 x2)
theorem lr_best (hR : zMd R) (x1 : Int32) (x2 : Int32) (x3 : Int32) (x4 : Int32) (M N : zM) : f_X12_best R (zmx kAr M N) 242 x1 x2 x3 x4 = Option.map (fun p => (p.1, zmx kAr p.2 N)) (f_X12_best R M 242 x1 x2 x3 x4) := lc_f_X12_best (by decide) (kAr_f hR (by decide)) (kAr_f hR (by decide)) (kAr_f hR (by decide)) (kAr_f hR (by decide)) (kAr_f hR (by decide)) (kAr_f hR (by decide)) (kAr_f hR (by decide)) (kAr_f hR (by decide)) (kAr_f hR (by decide)) (kAr_f hR (by decide)) (kAr_f hR (by decide)) (kAr_f hR (by decide)) (kAr_f hR (by decide)) (kAr_f hR (by decide)) (kAr_f hR (by decide)) (kAr_f hR (by decide)) (kAr_f hR (by decide)) (kAr_f hR (by decide)) (kAr_f hR (by decide))
theorem c_best (h : zNv R M T S) (hT : T + 3100000 < 2147483648) (hS : S + 400 < 2147483648) (L : zL) (x1 : Int32) (x2 : Int32) (x3 : Int32) (x4 : Int32) : zT (n_X11_best R M L 2 x1 x2 x3 x4) (fun p => (∀ b, b < 13 ∨ 242 ≤ b → p.2.2 b = L b) ∧ ((∀ k, p.2.1 21 k = M 21 k) ∧ p.2.1 281 = M 281) ∧ zT (f_X12_best R p.2.1 242 x1 x2 x3 x4) (fun p1 => zNv R p1.2 (T + 3000000) (S + 300) ∧ ∀ a, a < 242 → p1.2 a = p.2.1 a)) := by
  obtain ⟨hrc, ⟨q, ru, C⟩, hn, -⟩ := id h
  refine zT_w (best_c C (kW.rf (L := L) hn) x1 x2 x3 x4) ?_
  rintro p hp
  refine ⟨hp.2.1, ⟨fun k => hp.1 21 k (by unfold kFp zsk; omega), funext fun k => hp.1 281 k (by unfold kFp zsk; omega)⟩, h.call (fc := fun M => f_X11_best R M 2 x1 x2 x3 x4) (fr := fun M => f_X12_best R M 242 x1 x2 x3 x4) (hp.kC C) hp.kCt hp.gFr (lr_best C.1.1 x1 x2 x3 x4) (fun Mg ru q l n u x hs => ?_)⟩
  exact zAns.outF hs (zBest hs hT hS x1 x2 x3 x4)
theorem lr_loan (hR : zMd R) (x1 : Int32) (x2 : Int32) (x3 : Int32) (x4 : Int32) (M N : zM) : f_X12_loan R (zmx kAr M N) 242 x1 x2 x3 x4 = Option.map (fun p => (p.1, zmx kAr p.2 N)) (f_X12_loan R M 242 x1 x2 x3 x4) := lc_f_X12_loan (by decide) (kAr_f hR (by decide)) (kAr_f hR (by decide)) (kAr_f hR (by decide)) (kAr_f hR (by decide)) (kAr_f hR (by decide)) (kAr_f hR (by decide)) (kAr_f hR (by decide)) (kAr_f hR (by decide)) (kAr_f hR (by decide)) (kAr_f hR (by decide)) (kAr_f hR (by decide)) (kAr_f hR (by decide)) (kAr_f hR (by decide)) (kAr_f hR (by decide)) (kAr_f hR (by decide)) (kAr_f hR (by decide)) (kAr_f hR (by decide)) (kAr_f hR (by decide)) (kAr_f hR (by decide))
theorem c_loan (h : zNv R M T S) (hT : T + 3100000 < 2147483648) (hS : S + 400 < 2147483648) (L : zL) (x1 : Int32) (x2 : Int32) (x3 : Int32) (x4 : Int32) : zT (n_X11_loan R M L 2 x1 x2 x3 x4) (fun p => (∀ b, b < 13 ∨ 242 ≤ b → p.2.2 b = L b) ∧ ((∀ k, p.2.1 21 k = M 21 k) ∧ p.2.1 281 = M 281) ∧ zT (f_X12_loan R p.2.1 242 x1 x2 x3 x4) (fun p1 => zNv R p1.2 (T + 3000000) (S + 300) ∧ ∀ a, a < 242 → p1.2 a = p.2.1 a)) := by
  obtain ⟨hrc, ⟨q, ru, C⟩, hn, -⟩ := id h
  refine zT_w (loan_c C (kW.rf (L := L) hn) x1 x2 x3 x4) ?_
  rintro p hp
  refine ⟨hp.2.1, ⟨fun k => hp.1 21 k (by unfold kFp zsk; omega), funext fun k => hp.1 281 k (by unfold kFp zsk; omega)⟩, h.call (fc := fun M => f_X11_loan R M 2 x1 x2 x3 x4) (fr := fun M => f_X12_loan R M 242 x1 x2 x3 x4) (hp.kC C) hp.kCt hp.gFr (lr_loan C.1.1 x1 x2 x3 x4) (fun Mg ru q l n u x hs => ?_)⟩
  exact zAns.outF hs (zLoan hs hT hS x1 x2 x3 x4)
theorem lr_site (hR : zMd R) (x1 : Int32) (M N : zM) : f_X12_site R (zmx kAr M N) 242 x1 = Option.map (fun p => (p.1, zmx kAr p.2 N)) (f_X12_site R M 242 x1) := lc_f_X12_site (by decide) (kAr_f hR (by decide)) (kAr_f hR (by decide)) (kAr_f hR (by decide)) (kAr_f hR (by decide)) (kAr_f hR (by decide)) (kAr_f hR (by decide)) (kAr_f hR (by decide)) (kAr_f hR (by decide)) (kAr_f hR (by decide)) (kAr_f hR (by decide)) (kAr_f hR (by decide)) (kAr_f hR (by decide)) (kAr_f hR (by decide)) (kAr_f hR (by decide)) (kAr_f hR (by decide))
theorem c_site (h : zNv R M T S) (hT : T + 3100000 < 2147483648) (hS : S + 400 < 2147483648) (L : zL) (x1 : Int32) : zT (n_X11_site R M L 2 x1) (fun p => (∀ b, b < 13 ∨ 242 ≤ b → p.2.2 b = L b) ∧ ((∀ k, p.2.1 21 k = M 21 k) ∧ p.2.1 281 = M 281) ∧ zT (f_X12_site R p.2.1 242 x1) (fun p1 => zNv R p1.2 (T + 3000000) (S + 300) ∧ ∀ a, a < 242 → p1.2 a = p.2.1 a)) := by
  obtain ⟨hrc, ⟨q, ru, C⟩, hn, -⟩ := id h
  refine zT_w (site_c C (kW.rf (L := L) hn) x1) ?_
  rintro p hp
  refine ⟨hp.2.1, ⟨fun k => hp.1 21 k (by unfold kFp zsk; omega), funext fun k => hp.1 281 k (by unfold kFp zsk; omega)⟩, h.call (fc := fun M => f_X11_site R M 2 x1) (fr := fun M => f_X12_site R M 242 x1) (hp.kC C) hp.kCt hp.gFr (lr_site C.1.1 x1) (fun Mg ru q l n u x hs => ?_)⟩
  exact zAns.outF hs (zSite hs hT hS x1)
theorem lr_rests (hR : zMd R) (x1 : Int32) (x2 : Int32) (M N : zM) : f_X12_rests R (zmx kAr M N) 242 x1 x2 = Option.map (fun p => (p.1, zmx kAr p.2 N)) (f_X12_rests R M 242 x1 x2) := lc_f_X12_rests (by decide) (kAr_f hR (by decide)) (kAr_f hR (by decide)) (kAr_f hR (by decide)) (kAr_f hR (by decide)) (kAr_f hR (by decide)) (kAr_f hR (by decide)) (kAr_f hR (by decide)) (kAr_f hR (by decide)) (kAr_f hR (by decide)) (kAr_f hR (by decide)) (kAr_f hR (by decide)) (kAr_f hR (by decide)) (kAr_f hR (by decide)) (kAr_f hR (by decide)) (kAr_f hR (by decide)) (kAr_f hR (by decide)) (kAr_f hR (by decide)) (kAr_f hR (by decide)) (kAr_f hR (by decide)) (kAr_f hR (by decide))
theorem c_rests (h : zNv R M T S) (hT : T + 3100000 < 2147483648) (hS : S + 400 < 2147483648) (L : zL) (x1 : Int32) (x2 : Int32) : zT (n_X11_rests R M L 2 x1 x2) (fun p => (∀ b, b < 13 ∨ 242 ≤ b → p.2.2 b = L b) ∧ ((∀ k, p.2.1 21 k = M 21 k) ∧ p.2.1 281 = M 281) ∧ zT (f_X12_rests R p.2.1 242 x1 x2) (fun p1 => zNv R p1.2 (T + 3000000) (S + 300) ∧ ∀ a, a < 242 → p1.2 a = p.2.1 a)) := by
  obtain ⟨hrc, ⟨q, ru, C⟩, hn, -⟩ := id h
  refine zT_w (rests_c C (kW.rf (L := L) hn) x1 x2) ?_
  rintro p hp
  refine ⟨hp.2.1, ⟨fun k => hp.1 21 k (by unfold kFp zsk; omega), funext fun k => hp.1 281 k (by unfold kFp zsk; omega)⟩, h.call (fc := fun M => f_X11_rests R M 2 x1 x2) (fr := fun M => f_X12_rests R M 242 x1 x2) (hp.kC C) hp.kCt hp.gFr (lr_rests C.1.1 x1 x2) (fun Mg ru q l n u x hs => ?_)⟩
  exact zAns.outF hs (zRests hs hT hS x1 x2)
theorem lr_fits (hR : zMd R) (x1 : Int32) (x2 : Int32) (M N : zM) : f_X12_fits R (zmx kAr M N) 242 x1 x2 = Option.map (fun p => (p.1, zmx kAr p.2 N)) (f_X12_fits R M 242 x1 x2) := lc_f_X12_fits (by decide) (kAr_f hR (by decide)) (kAr_f hR (by decide)) (kAr_f hR (by decide)) (kAr_f hR (by decide)) (kAr_f hR (by decide)) (kAr_f hR (by decide)) (kAr_f hR (by decide)) (kAr_f hR (by decide)) (kAr_f hR (by decide)) (kAr_f hR (by decide)) (kAr_f hR (by decide)) (kAr_f hR (by decide)) (kAr_f hR (by decide)) (kAr_f hR (by decide)) (kAr_f hR (by decide)) (kAr_f hR (by decide)) (kAr_f hR (by decide)) (kAr_f hR (by decide)) (kAr_f hR (by decide)) (kAr_f hR (by decide)) (kAr_f hR (by decide)) (kAr_f hR (by decide))
theorem c_fits (h : zNv R M T S) (hT : T + 3100000 < 2147483648) (hS : S + 400 < 2147483648) (L : zL) (x1 : Int32) (x2 : Int32) : zT (n_X11_fits R M L 2 x1 x2) (fun p => (∀ b, b < 13 ∨ 242 ≤ b → p.2.2 b = L b) ∧ ((∀ k, p.2.1 21 k = M 21 k) ∧ p.2.1 281 = M 281) ∧ zT (f_X12_fits R p.2.1 242 x1 x2) (fun p1 => zNv R p1.2 (T + 3000000) (S + 300) ∧ ∀ a, a < 242 → p1.2 a = p.2.1 a)) := by
  obtain ⟨hrc, ⟨q, ru, C⟩, hn, -⟩ := id h
  refine zT_w (fits_c C (kW.rf (L := L) hn) x1 x2) ?_
  rintro p hp
  refine ⟨hp.2.1, ⟨fun k => hp.1 21 k (by unfold kFp zsk; omega), funext fun k => hp.1 281 k (by unfold kFp zsk; omega)⟩, h.call (fc := fun M => f_X11_fits R M 2 x1 x2) (fr := fun M => f_X12_fits R M 242 x1 x2) (hp.kC C) hp.kCt hp.gFr (lr_fits C.1.1 x1 x2) (fun Mg ru q l n u x hs => ?_)⟩
  exact zAns.outF hs (zFits hs hT x1 x2)
theorem lr_span (hR : zMd R) (x1 : Int32) (x2 : Int32) (x3 : Int32) (M N : zM) : f_X12_span R (zmx kAr M N) 242 x1 x2 x3 = Option.map (fun p => (p.1, zmx kAr p.2 N)) (f_X12_span R M 242 x1 x2 x3) := lc_f_X12_span (by decide) (kAr_f hR (by decide)) (kAr_f hR (by decide)) (kAr_f hR (by decide)) (kAr_f hR (by decide)) (kAr_f hR (by decide)) (kAr_f hR (by decide)) (kAr_f hR (by decide)) (kAr_f hR (by decide)) (kAr_f hR (by decide)) (kAr_f hR (by decide)) (kAr_f hR (by decide)) (kAr_f hR (by decide)) (kAr_f hR (by decide)) (kAr_f hR (by decide)) (kAr_f hR (by decide)) (kAr_f hR (by decide)) (kAr_f hR (by decide)) (kAr_f hR (by decide)) (kAr_f hR (by decide)) (kAr_f hR (by decide)) (kAr_f hR (by decide)) (kAr_f hR (by decide))
theorem c_span (h : zNv R M T S) (hT : T + 3100000 < 2147483648) (hS : S + 400 < 2147483648) (L : zL) (x1 : Int32) (x2 : Int32) (x3 : Int32) : zT (n_X11_span R M L 2 x1 x2 x3) (fun p => (∀ b, b < 13 ∨ 242 ≤ b → p.2.2 b = L b) ∧ ((∀ k, p.2.1 21 k = M 21 k) ∧ p.2.1 281 = M 281) ∧ zT (f_X12_span R p.2.1 242 x1 x2 x3) (fun p1 => zNv R p1.2 (T + 3000000) (S + 300) ∧ ∀ a, a < 242 → p1.2 a = p.2.1 a)) := by
  obtain ⟨hrc, ⟨q, ru, C⟩, hn, -⟩ := id h
  refine zT_w (span_c C (kW.rf (L := L) hn) x1 x2 x3) ?_
  rintro p hp
  refine ⟨hp.2.1, ⟨fun k => hp.1 21 k (by unfold kFp zsk; omega), funext fun k => hp.1 281 k (by unfold kFp zsk; omega)⟩, h.call (fc := fun M => f_X11_span R M 2 x1 x2 x3) (fr := fun M => f_X12_span R M 242 x1 x2 x3) (hp.kC C) hp.kCt hp.gFr (lr_span C.1.1 x1 x2 x3) (fun Mg ru q l n u x hs => ?_)⟩
  exact zAns.outF hs (zSpan hs hT x1 x2 x3)
theorem lr_ago (hR : zMd R) (x1 : Int32) (M N : zM) : f_X12_ago R (zmx kAr M N) 242 x1 = Option.map (fun p => (p.1, zmx kAr p.2 N)) (f_X12_ago R M 242 x1) := lc_f_X12_ago (by decide) (kAr_f hR (by decide)) (kAr_f hR (by decide)) (kAr_f hR (by decide)) (kAr_f hR (by decide)) (kAr_f hR (by decide)) (kAr_f hR (by decide)) (kAr_f hR (by decide)) (kAr_f hR (by decide)) (kAr_f hR (by decide)) (kAr_f hR (by decide)) (kAr_f hR (by decide)) (kAr_f hR (by decide)) (kAr_f hR (by decide)) (kAr_f hR (by decide)) (kAr_f hR (by decide)) (kAr_f hR (by decide)) (kAr_f hR (by decide))
theorem c_ago (h : zNv R M T S) (hT : T + 3100000 < 2147483648) (hS : S + 400 < 2147483648) (L : zL) (x1 : Int32) : zT (n_X11_ago R M L 2 x1) (fun p => (∀ b, b < 13 ∨ 242 ≤ b → p.2.2 b = L b) ∧ ((∀ k, p.2.1 21 k = M 21 k) ∧ p.2.1 281 = M 281) ∧ zT (f_X12_ago R p.2.1 242 x1) (fun p1 => zNv R p1.2 (T + 3000000) (S + 300) ∧ ∀ a, a < 242 → p1.2 a = p.2.1 a)) := by
  obtain ⟨hrc, ⟨q, ru, C⟩, hn, -⟩ := id h
  refine zT_w (ago_c C (kW.rf (L := L) hn) x1) ?_
  rintro p hp
  refine ⟨hp.2.1, ⟨fun k => hp.1 21 k (by unfold kFp zsk; omega), funext fun k => hp.1 281 k (by unfold kFp zsk; omega)⟩, h.call (fc := fun M => f_X11_ago R M 2 x1) (fr := fun M => f_X12_ago R M 242 x1) (hp.kC C) hp.kCt hp.gFr (lr_ago C.1.1 x1) (fun Mg ru q l n u x hs => ?_)⟩
  exact zAns.outF hs (zAgo hs hT x1)
theorem lr_tell (hR : zMd R) (x1 : Int32) (x2 : Int32) (M N : zM) : f_X12_tell_ R (zmx kAr M N) 242 x1 x2 = Option.map (fun p => (p.1, zmx kAr p.2 N)) (f_X12_tell_ R M 242 x1 x2) := lc_f_X12_tell_ (by decide) (kAr_f hR (by decide)) (kAr_f hR (by decide)) (kAr_f hR (by decide))
theorem lk_tell {u x n l : Nat} (hrc : kRc R) (hs : zSt R Mg ru q l n T S u x) (x1 : Int32) (x2 : Int32) (M N : zM) : f_X11_tell R (zmx kAc M N) 2 x1 x2 = Option.map (fun p => (p.1, zmx kAc p.2 N)) (f_X11_tell R M 2 x1 x2) := lc_f_X11_tell hs.c2 hs.c7 hrc
theorem c_tell (h : zNv R M T S) (x1 : Int32) (x2 : Int32) : zT (f_X11_tell R M 2 x1 x2) (fun p => ((∀ k, p.2 21 k = M 21 k) ∧ p.2 281 = M 281) ∧ zT (f_X12_tell_ R p.2 242 x1 x2) (fun p1 => zNv R p1.2 (T + 3000000) (S + 300) ∧ ∀ a, a < 242 → p1.2 a = p.2 a)) := by
  obtain ⟨hrc, ⟨q, ru, C⟩, hn, -⟩ := id h
  refine zT_w (tell_c C M x1 x2) ?_
  rintro p hp
  refine ⟨⟨fun k => hp 21 k (by unfold kTo; omega), funext fun k => hp 281 k (by unfold kTo; omega)⟩, h.call (fc := fun M => f_X11_tell R M 2 x1 x2) (fr := fun M => f_X12_tell_ R M 242 x1 x2) ⟨C.1, C.2.1, C.2.2.1, C.2.2.2.1, C.cr.eq (fun b k p1 p2 p3 => hp b k (by have := C.qq; unfold kTo; omega))⟩ (fun r hr => ?_) (fun a ha => funext fun k => hp a k (by unfold kTo; omega)) (lr_tell C.1.1 x1 x2) (fun Mg ru q l n u x hs => ?_)⟩
  · obtain ⟨n, h1, h2⟩ := hn r hr
    exact ⟨n, h1, by rw [hp r 4 (by unfold kRg at hr; unfold kTo; omega)]; exact h2⟩
  · exact zT_and (zTellO hs x1 x2) (fun p e => gFr_of (f := fun M => f_X11_tell R M 2 x1 x2) (lk_tell hrc hs x1 x2) e)
theorem lr_forget (hR : zMd R) (M N : zM) : f_X12_forget (zmx kAr M N) 242 = Option.map (fun p => (p.1, zmx kAr p.2 N)) (f_X12_forget M 242) := lc_f_X12_forget (by decide)
theorem lk_forget {u x n l : Nat} (hrc : kRc R) (hs : zSt R Mg ru q l n T S u x) (M N : zM) : f_X11_forget R (zmx kAc M N) 2 = Option.map (fun p => (p.1, zmx kAc p.2 N)) (f_X11_forget R M 2) := lc_f_X11_forget hs.c7
theorem c_forget (h : zNv R M T S) : zT (f_X11_forget R M 2) (fun p => ((∀ k, p.2 21 k = M 21 k) ∧ p.2 281 = M 281) ∧ zT (f_X12_forget p.2 242) (fun p1 => zNv R p1.2 (T + 3000000) (S + 300) ∧ ∀ a, a < 242 → p1.2 a = p.2 a)) := by
  obtain ⟨hrc, ⟨q, ru, C⟩, hn, -⟩ := id h
  refine zT_w (forget_c C M) ?_
  rintro p hp
  refine ⟨⟨fun k => hp 21 k (by unfold kTo; omega), funext fun k => hp 281 k (by unfold kTo; omega)⟩, h.call (fc := fun M => f_X11_forget R M 2) (fr := fun M => f_X12_forget M 242) ⟨C.1, C.2.1, C.2.2.1, C.2.2.2.1, C.cr.eq (fun b k p1 p2 p3 => hp b k (by have := C.qq; unfold kTo; omega))⟩ (fun r hr => ?_) (fun a ha => funext fun k => hp a k (by unfold kTo; omega)) (lr_forget C.1.1) (fun Mg ru q l n u x hs => ?_)⟩
  · obtain ⟨n, h1, h2⟩ := hn r hr
    exact ⟨n, h1, by rw [hp r 4 (by unfold kRg at hr; unfold kTo; omega)]; exact h2⟩
  · exact zT_and (zForgetO hs) (fun p e => gFr_of (f := fun M => f_X11_forget R M 2) (lk_forget hrc hs) e)
theorem lr_hold (hR : zMd R) (x1 : Int32) (M N : zM) : f_X12_hold R (zmx kAr M N) 242 x1 = Option.map (fun p => (p.1, zmx kAr p.2 N)) (f_X12_hold R M 242 x1) := lc_f_X12_hold (kAr_f hR (by decide)) (kAr_f hR (by decide)) (kAr_f hR (by decide))
theorem lk_hold {u x n l : Nat} (hrc : kRc R) (hs : zSt R Mg ru q l n T S u x) (x1 : Int32) (M N : zM) : f_X11_hold R (zmx kAc M N) 2 x1 = Option.map (fun p => (p.1, zmx kAc p.2 N)) (f_X11_hold R M 2 x1) := lc_f_X11_hold hs.c2 hs.c3 hrc
theorem c_hold (h : zNv R M T S) (L : zL) (x1 : Int32) : zT (n_X11_hold R M L 2 x1) (fun p => (∀ b, b < 13 ∨ 242 ≤ b → p.2.2 b = L b) ∧ p.2.1 281 = M 281 ∧ (((x1 < 0 ∨ nI 3 ≤ x1) ∧ p.1 = 0 ∧ ∀ k, p.2.1 21 k = M 21 k) ∨ ∃ s, s < 3 ∧ x1 = nI s ∧ p.1 = 1 ∧ p.2.1 21 s = 1 ∧ ∀ k, k ≠ s → p.2.1 21 k = M 21 k) ∧ zT (f_X12_hold R p.2.1 242 x1) (fun p1 => zNv R p1.2 (T + 3000000) (S + 300) ∧ ∀ a, a < 242 → p1.2 a = p.2.1 a)) := by
  obtain ⟨hrc, ⟨q, ru, C⟩, hn, -⟩ := id h
  refine zT_w (hold_c C (kW.rf (L := L) hn) x1) ?_
  rintro ⟨v, M1, L1⟩ hp
  dsimp only at hp ⊢
  have key : ∀ M1 : zM, kC R M1 q ru → kCt M1 → gFr M M1 → zT (f_X12_hold R M1 242 x1) (fun p1 => zNv R p1.2 (T + 3000000) (S + 300) ∧ ∀ a, a < 242 → p1.2 a = M1 a) := fun M1 hc hn1 f1 => h.call (fc := fun M => f_X11_hold R M 2 x1) (fr := fun M => f_X12_hold R M 242 x1) hc hn1 f1 (lr_hold C.1.1 x1) (fun Mg ru q l n u x hs => zT_and (zHoldO hs x1) (fun p e => gFr_of (f := fun M => f_X11_hold R M 2 x1) (lk_hold hrc hs x1) e))
  rcases hp with ⟨h1, h2, h3, h4⟩ | ⟨s, h1, h2, h3, M2, h4, h5⟩
  · subst h3
    subst h4
    exact ⟨fun _ _ => rfl, rfl, Or.inl ⟨h1, h2, fun _ => rfl⟩, key M1 C hn (fun _ _ => rfl)⟩
  · subst h5
    refine ⟨h4.2.1, (zup_r (by omega)).trans (funext fun k => h4.1 281 k (by unfold kFp zsk; omega)), Or.inr ⟨s, h1, h2, h3, zup_same, fun k hk => ?_⟩, key _ ⟨C.1, C.2.1, C.2.2.1, C.2.2.2.1, (h4.cr C).eq (fun b k p1 p2 p3 => zup_a (by have := C.qq; omega))⟩ (fun r hr => ?_) (fun a ha => ?_)⟩
    · rw [zup_k hk]
      exact h4.1 21 k (by unfold kFp zsk; omega)
    · obtain ⟨n, g1, g2⟩ := h4.n hr
      exact ⟨n, g1, by rw [zup_a (by unfold kRg at hr; omega)]; exact g2⟩
    · rw [zup_r (by omega)]
      exact h4.gFr a ha
/-- what hold says -/
theorem holdR {x1 : Int32} {M : zM} (hR : zMd R) {p : Int32 × zM} (e : f_X12_hold R M 242 x1 = some p) : ((x1 < 0 ∨ nI 3 ≤ x1) → p.1 = 0) ∧ ((∃ s, s < 3 ∧ x1 = nI s) → p.1 = 1) := by
  unfold f_X12_hold at e
  rcases X12_in3 (x := x1) with ⟨s, hs, rfl, ei⟩ | ⟨hx, ei⟩
  · refine ⟨fun z => ?_, fun _ => ?_⟩
    · rcases z with z | z
      · exact absurd z (nI_pos (by omega))
      · exact absurd z (nI_ge hs (by omega))
    · rw [ei] at e
      obtain ⟨r, h1, e⟩ := zbd_e e
      cases h1
      rw [if_neg (by decide)] at e
      obtain ⟨-, e⟩ := zck_e e
      obtain ⟨M5, -, e⟩ := zlt_e e
      obtain ⟨e10, -, e⟩ := zbd_e e
      cases e
      rfl
  · refine ⟨fun _ => ?_, fun ⟨s, hs, z⟩ => ?_⟩
    · rw [ei] at e
      obtain ⟨r, h1, e⟩ := zbd_e e
      cases h1
      rw [if_pos rfl] at e
      cases e
      rfl
    · subst z
      rcases hx with z | z
      · exact absurd z (nI_pos (by omega))
      · exact absurd z (nI_ge hs (by omega))
theorem c_count (h : zNv R M T S) (x1 : Int32) : zT (f_X11_count R M 2 x1) (fun _ => zT (f_X12_count R M 242 x1) (fun _ => zNv R M (T + 3000000) (S + 300))) := by
  obtain ⟨hrc, ⟨q, ru, C⟩, hn, Mg, ⟨ru1, q1, l, n, u, x, ho⟩, e⟩ := id h
  refine zT_w (count_c C M x1) (fun _ _ => ?_)
  have hR := C.1.1
  obtain ⟨v, -, w, ew, -, ho2⟩ := zCountO ho x1
  have eM : zmx kAr Mg M = M := funext fun a => by
    unfold zmx
    by_cases h : kAr a = true
    · rw [if_pos h]
      exact (e.1 a (of_decide_eq_true h)).symm
    · rw [if_neg h]
  have lc : f_X12_count R (zmx kAr Mg M) 242 x1 = f_X12_count R Mg 242 x1 := lc_f_X12_count (by decide) (kAr_f hR (by decide)) (kAr_f hR (by decide)) (kAr_f hR (by decide)) (kAr_f hR (by decide)) (kAr_f hR (by decide)) (kAr_f hR (by decide))
  rw [eM, ew] at lc
  exact zT_eq lc ⟨hrc, ⟨q, ru, C⟩, hn, Mg, ho2, e⟩
theorem c_place (h : zNv R M T S) : zT (f_X11_place M 2) (fun v => zT (f_X12_place M 242) (fun w => w = v ∧ zNv R M (T + 3000000) (S + 300))) := by
  obtain ⟨hrc, hC, hn, Mg, ⟨ru1, q1, l, n, u, x, ho⟩, e⟩ := h
  unfold f_X11_place f_X12_place
  refine zT_some (zT_some ⟨?_, hrc, hC, hn, Mg, ho.out (by omega) (by omega), e⟩)
  rw [e.1 242 (by omega), e.2.2.2]
  exact ho.pl.symm
theorem lr_feed (hR : zMd R) (x1 : Int32) (x2 : Int32) (x3 : Int32) (x4 : Int32) (x5 : Int32) (M N : zM) : f_X12_feed R (zmx kAr M N) 242 x1 x2 x3 x4 x5 = Option.map (fun p => (p.1, zmx kAr p.2 N)) (f_X12_feed R M 242 x1 x2 x3 x4 x5) := lc_f_X12_feed (by decide) (kAr_f hR (by decide))
theorem lr_back (hR : zMd R) (x1 : Int32) (M N : zM) : f_X12_back (zmx kAr M N) 242 x1 = Option.map (fun p => (p.1, zmx kAr p.2 N)) (f_X12_back M 242 x1) := lc_f_X12_back (by decide)
def fdF (f : Nat → Int32) (t : Nat) (a b c d e : Int32) : Nat → Int32 := putF (putF (putF (putF (putF f t a) (t + 4) b) (t + 4 + 4) c) (t + 4 + 4 + 4) d) (t + 4 + 4 + 4 + 4) e
theorem feedC (x0 : R 2 0 = 3) (r3 : R 3 0 = 4) {t : Nat} (t1 : t ≤ 2000) (t2 : M 3 1 = nI t) (a b c d e : Int32) : zT (f_X11_feed R M 2 a b c d e) (fun p => (t + 20 ≤ 2000 ∧ p.1 = nI (t + 20) ∧ p.2 3 1 = nI (t + 20) ∧ p.2 4 = fdF (M 4) t a b c d e ∨ ¬ t + 20 ≤ 2000 ∧ p = (-1, M)) ∧ zag (fun b k => (b = 3 ∧ k = 1) ∨ b = 4) M p.2) := by
  unfold f_X11_feed
  rw [x0, t2, nI_lit 20, nI_add, nI_lit 2000]
  by_cases ct : t + 20 ≤ 2000
  rotate_left
  · exact zT_if0 (nI_ge (by omega) (by omega)) (zT_some ⟨Or.inr ⟨ct, rfl⟩, zag.rf⟩)
  refine zT_if1 (nI_le (by omega) (by omega)) (zT_bd (zT_w (X8_put r3 t2 (by omega) a) ?_))
  rintro M1 ⟨a1, b1, g1⟩
  refine zT_bd (zT_w (X8_put r3 a1 (by omega) b) ?_)
  rintro M2 ⟨a2, b2, g2⟩
  refine zT_bd (zT_w (X8_put r3 a2 (by omega) c) ?_)
  rintro M3 ⟨a3, b3, g3⟩
  refine zT_bd (zT_w (X8_put r3 a3 (by omega) d) ?_)
  rintro M4 ⟨a4, b4, g4⟩
  refine zT_bd (zT_w (X8_put r3 a4 (by omega) e) ?_)
  rintro M5 ⟨a5, b5, g5⟩
  refine zT_some ⟨Or.inl ⟨ct, a5, a5, ?_⟩, (((g1.tr g2).tr g3).tr g4).tr g5⟩
  show M5 4 = _
  rw [b5, b4, b3, b2, b1]
  rfl
theorem kTx {X : Nat → Nat → Prop} (hX : ∀ b k, X b k → b = 3 ∨ b = 4) (g : zag X M M1) (C : kC R M q ru) (hn : kCt M) : kC R M1 q ru ∧ kCt M1 ∧ (∀ a, 242 ≤ a → M1 a = M a) ∧ M1 2 10 = M 2 10 ∧ ∀ k, M1 21 k = M 21 k := by
  have f : ∀ b k, b ≠ 3 → b ≠ 4 → M1 b k = M b k := fun b k h1 h2 => g b k (fun z => by rcases hX b k z with z | z <;> omega)
  refine ⟨⟨C.1, C.2.1, C.2.2.1, C.2.2.2.1, C.cr.eq (fun b k p1 p2 p3 => f b k (by have := C.qq; omega) (by have := C.qq; omega))⟩, fun r hr => ?_, fun a ha => funext fun k => f a k (by omega) (by omega), f 2 10 (by omega) (by omega), fun k => f 21 k (by omega) (by omega)⟩
  obtain ⟨n, h1, h2⟩ := hn r hr
  exact ⟨n, h1, by rw [f r 4 (by unfold kRg at hr; omega) (by unfold kRg at hr; omega)]; exact h2⟩
theorem c_feed (h : zNv R M T S) (a b c d e : Int32) : zT (f_X11_feed R M 2 a b c d e) (fun p => ((∀ k, p.2 21 k = M 21 k) ∧ p.2 281 = M 281) ∧ zT (f_X12_feed R p.2 242 a b c d e) (fun p1 => p1.1 = p.1 ∧ zNv R p1.2 (T + 3000000) (S + 300) ∧ ∀ a, a < 242 → p1.2 a = p.2 a)) := by
  obtain ⟨hrc, ⟨q, ru, C⟩, hn, Mg, ⟨ru1, q1, l, n, u, x, ho⟩, ge⟩ := id h
  obtain ⟨t, t1, t2, t3, t4⟩ := ho.tp
  have x0 : R 2 0 = 3 := C.xr.1
  have r3 : R 3 0 = 4 := C.rs.2.2.2.2.2.2.1
  refine zT_w (feedC x0 r3 t1 (ge.2.2.1.trans t2) a b c d e) ?_
  rintro ⟨v, M1⟩ ⟨hv, g⟩
  dsimp only at hv g ⊢
  obtain ⟨C1, hn1, f1, f2, f3⟩ := kTx (fun b k z => by omega) g C hn
  obtain ⟨⟨w, P⟩, ew, hw, gw⟩ := feedC x0 r3 t1 t2 a b c d e
  obtain ⟨p, ep, hg⟩ := zFeedO ho a b c d e
  rw [ew] at ep
  cases ep
  dsimp only at hw gw hg
  have k1 : ∀ a, 242 ≤ a → P a = Mg a := fun a ha => funext fun k => gw a k (by omega)
  have k2 : P 2 10 = Mg 2 10 := gw 2 10 (by omega)
  refine ⟨⟨f3, f1 281 (by omega)⟩, ?_⟩
  have e31 : M1 3 1 = P 3 1 ∧ M1 4 = P 4 ∧ v = w := by
    rcases hv with ⟨c1, v1, v2, v3⟩ | ⟨c1, v1⟩ <;> rcases hw with ⟨c2, w1, w2, w3⟩ | ⟨c2, w1⟩
    · exact ⟨v2.trans w2.symm, by rw [v3, w3, ge.2.1], v1.trans w1.symm⟩
    · exact absurd c1 c2
    · exact absurd c2 c1
    · cases v1
      cases w1
      exact ⟨ge.2.2.1, ge.2.1, rfl⟩
  rw [e31.2.2]
  exact zNv.go (fr := fun M => f_X12_feed R M 242 a b c d e) hrc C1 hn1 (lr_feed C.1.1 a b c d e) (P := P) ⟨fun a ha => by rw [f1 a ha, k1 a ha, ge.1 a ha], e31.2.1, e31.1, by rw [f2, k2, ge.2.2.2]⟩ hg
theorem backC (x0 : R 2 0 = 3) {t : Nat} (t1 : t ≤ 2000) (t2 : M 3 1 = nI t) (y : Int32) : zT (f_X11_back R M 2 y) (fun p => (p = (-1, M) ∧ (y < 0 ∨ ¬ y ≤ nI t)) ∨ (¬ y < 0 ∧ y ≤ nI t ∧ p = (nI t - y, zup M 3 1 (nI t - y)))) := by
  unfold f_X11_back
  rw [x0, t2]
  refine zT_if (fun h0 => zT_some (Or.inl ⟨rfl, Or.inl h0⟩)) (fun h0 => zT_if (fun h1 => zT_lt (zT_some (Or.inr ⟨h0, h1, ?_⟩))) (fun h1 => zT_some (Or.inl ⟨rfl, Or.inr h1⟩)))
  rw [zup_same]
theorem c_back (h : zNv R M T S) (y : Int32) : zT (f_X11_back R M 2 y) (fun p => ((∀ k, p.2 21 k = M 21 k) ∧ p.2 281 = M 281) ∧ zT (f_X12_back p.2 242 y) (fun p1 => p1.1 = p.1 ∧ zNv R p1.2 (T + 3000000) (S + 300) ∧ ∀ a, a < 242 → p1.2 a = p.2 a)) := by
  obtain ⟨hrc, ⟨q, ru, C⟩, hn, Mg, ⟨ru1, q1, l, n, u, x, ho⟩, ge⟩ := id h
  obtain ⟨t, t1, t2, t3, t4⟩ := ho.tp
  have x0 : R 2 0 = 3 := C.xr.1
  refine zT_w (backC x0 t1 (ge.2.2.1.trans t2) y) ?_
  rintro ⟨v, M1⟩ hv
  dsimp only at hv ⊢
  have g : zag (fun b _ => b = 3) M M1 := by
    rcases hv with ⟨hv, -⟩ | ⟨-, -, hv⟩
    · cases hv
      exact zag.rf
    · cases hv
      exact zag.rf.up rfl
  obtain ⟨C1, hn1, f1, f2, f3⟩ := kTx (fun b k z => by omega) g C hn
  obtain ⟨⟨w, P⟩, ew, hw⟩ := backC x0 t1 t2 y
  obtain ⟨p, ep, hg⟩ := zBackO ho y
  rw [ew] at ep
  cases ep
  dsimp only at hw hg
  refine ⟨⟨f3, f1 281 (by omega)⟩, ?_⟩
  have e31 : M1 3 1 = P 3 1 ∧ M1 4 = P 4 ∧ v = w ∧ (∀ a, 242 ≤ a → P a = Mg a) ∧ P 2 10 = Mg 2 10 := by
    rcases hv with ⟨v1, c1⟩ | ⟨c1, c2, v1⟩ <;> rcases hw with ⟨w1, d1⟩ | ⟨d1, d2, w1⟩
    · cases v1
      cases w1
      exact ⟨ge.2.2.1, ge.2.1, rfl, fun _ _ => rfl, rfl⟩
    · rcases c1 with c1 | c1
      · exact absurd c1 d1
      · exact absurd d2 c1
    · rcases d1 with d1 | d1
      · exact absurd d1 c1
      · exact absurd c2 d1
    · cases v1
      cases w1
      exact ⟨by rw [zup_same, zup_same], by rw [zup_r (by omega), zup_r (by omega)]; exact ge.2.1, rfl, fun a ha => zup_r (by omega), zup_a (by omega)⟩
  rw [e31.2.2.1]
  exact zNv.go (fr := fun M => f_X12_back M 242 y) hrc C1 hn1 (lr_back C.1.1 y) (P := P) ⟨fun a ha => by rw [f1 a ha, e31.2.2.2.1 a ha, ge.1 a ha], e31.2.1, e31.1, by rw [f2, e31.2.2.2.2, ge.2.2.2]⟩ hg
end GO

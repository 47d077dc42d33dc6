/-! THE FIRST CALL: no house is there, so the class as it stands answers as the ghost does -/
def sM {α β : Type} (x : Option α) (y : Option β) (Q : α → β → Prop) : Prop := ∀ a, x = some a → ∃ b, y = some b ∧ Q a b
section ZS
variable {α β γ δ ε ζ : Type} {Q : γ → δ → Prop}
theorem sM_some {a : γ} {b : δ} (h : Q a b) : sM (some a) (some b) Q := fun c e => by
  cases e
  exact ⟨b, rfl, h⟩
theorem sM_lt {a : α} {f : α → Option γ} {g : α → Option δ} (h : ∀ b, b = a → sM (f b) (g b) Q) : sM (zlt a f) (zlt a g) Q := h a rfl
theorem sM_ck {b : Bool} {x : Option γ} {y : Option δ} (h : sM x y Q) : sM (zck b x) (zck b y) Q := by
  unfold zck
  by_cases c : b = true
  · rw [if_pos c, if_pos c]
    exact h
  · rw [if_neg c]
    intro a e
    cases e
theorem sM_if {c : Prop} {i : Decidable c} {x x1 : Option γ} {y y1 : Option δ} (h : c → sM x y Q) (h1 : ¬ c → sM x1 y1 Q) : sM (if c then x else x1) (if c then y else y1) Q := by
  by_cases e : c
  · rw [if_pos e, if_pos e]
    exact h e
  · rw [if_neg e, if_neg e]
    exact h1 e
theorem sM_bd {P : α → β → Prop} {x : Option α} {y : Option β} {f : α → Option γ} {g : β → Option δ} (h : sM x y P) (k : ∀ a b, P a b → sM (f a) (g b) Q) : sM (zbd x f) (zbd y g) Q := fun c e => by
  cases x with
  | none => cases e
  | some a =>
    obtain ⟨b, e1, p⟩ := h a rfl
    rw [e1]
    exact k a b p c e
theorem sM_b12 {P : α → β × ε → Prop} {x : Option α} {y : Option (β × ε)} {f : α → Option γ} {g : β → ε → Option δ} (h : sM x y P) (k : ∀ a b, P a b → sM (f a) (g b.1 b.2) Q) : sM (zbd x f) (zbd2 y g) Q := fun c e => by
  cases x with
  | none => cases e
  | some a =>
    obtain ⟨b, e1, p⟩ := h a rfl
    rw [e1]
    exact k a b p c e
theorem sM_b23 {P : α × ζ → β × ε × ζ → Prop} {x : Option (α × ζ)} {y : Option (β × ε × ζ)} {f : α → ζ → Option γ} {g : β → ε → ζ → Option δ} (h : sM x y P) (k : ∀ a b, P a b → sM (f a.1 a.2) (g b.1 b.2.1 b.2.2) Q) : sM (zbd2 x f) (zbd3 y g) Q := fun c e => by
  cases x with
  | none => cases e
  | some a =>
    obtain ⟨b, e1, p⟩ := h a rfl
    rw [e1]
    exact k a b p c e
theorem sM_23 {P : α × ζ → β × ε × δ → Prop} {η : Type} {Q : γ → η → Prop} {x : Option (α × ζ)} {y : Option (β × ε × δ)} {f : α → ζ → Option γ} {g : β → ε → δ → Option η} (h : sM x y P) (k : ∀ a b, P a b → sM (f a.1 a.2) (g b.1 b.2.1 b.2.2) Q) : sM (zbd2 x f) (zbd3 y g) Q := fun c e => by
  cases x with
  | none => cases e
  | some a =>
    obtain ⟨b, e1, p⟩ := h a rfl
    rw [e1]
    exact k a b p c e
theorem sM_s {x : Option α} {f : α → Option γ} {g : α → Option δ} (k : ∀ a, x = some a → sM (f a) (g a) Q) : sM (zbd x f) (zbd x g) Q := fun c e => by
  cases x with
  | none => cases e
  | some a => exact k a rfl c e
theorem sM_s2 {x : Option (α × β)} {f : α → β → Option γ} {g : α → β → Option δ} (k : ∀ a, x = some a → sM (f a.1 a.2) (g a.1 a.2) Q) : sM (zbd2 x f) (zbd2 x g) Q := fun c e => by
  cases x with
  | none => cases e
  | some a => exact k a rfl c e
theorem sM_w {P : γ → δ → Prop} {x : Option γ} {y : Option δ} (h : sM x y P) (k : ∀ a b, P a b → Q a b) : sM x y Q := fun a e => by
  obtain ⟨b, e1, p⟩ := h a e
  exact ⟨b, e1, k a b p⟩
def sMr {V W E F : Type} (I : V → W → Prop) (P : E → F → Prop) : V ⊕ E → W ⊕ F → Prop
  | .inl a, .inl b => I a b
  | .inr a, .inr b => P a b
  | _, _ => False
theorem sM_loopN {V W E F : Type} {b : V → Option (V ⊕ E)} {c : W → Option (W ⊕ F)} {I : V → W → Prop} {P : E → F → Prop} (hs : ∀ v w, I v w → sM (b v) (c w) (sMr I P)) : ∀ (n : Nat) (v : V) (w : W), I v w → sM (zloop n b v) (zloop n c w) P
  | 0, _, _, _ => fun a e => by cases e
  | n + 1, v, w, h => fun a e => by
    unfold zloop at e ⊢
    cases e1 : b v with
    | none => rw [e1] at e; cases e
    | some r =>
      obtain ⟨r2, e2, p⟩ := hs v w h r e1
      rw [e1] at e
      rw [e2]
      match r, r2, p with
      | .inl v1, .inl w1, p => exact sM_loopN hs n v1 w1 p a e
      | .inr a1, .inr b1, p => cases e; exact ⟨b1, rfl, p⟩
theorem sM_loop {V W E F : Type} {b : V → Option (V ⊕ E)} {c : W → Option (W ⊕ F)} (I : V → W → Prop) {P : E → F → Prop} {v : V} {w : W} (h : I v w) (hs : ∀ v w, I v w → sM (b v) (c w) (sMr I P)) : sM (zloop zN b v) (zloop zN c w) P := sM_loopN hs zN v w h
theorem zbd_s {a : α} {f : α → Option β} : zbd (some a) f = f a := rfl
theorem zbd2_s {a : α} {b : β} {f : α → β → Option γ} : zbd2 (some (a, b)) f = f a b := rfl
theorem zbd3_s {a : α} {b : β} {c : δ} {f : α → β → δ → Option γ} : zbd3 (some (a, b, c)) f = f a b c := rfl
theorem zl1 {V E : Type} {b : V → Option (V ⊕ E)} {v : V} {e : E} (h : b v = some (.inr e)) : zloop zN b v = some e := by
  show zloop (999999 + 1) b v = some e
  unfold zloop
  rw [h]
end ZS
section SIM
variable {R : zR} {M M1 : zM} {L : zL} {q r s : Nat} {ru : zRu}
theorem has0 (h : M r 4 = 0) (x : Int32) : f_X6_has M r x = some 0 := by
  unfold f_X6_has
  by_cases c : x < 0
  · rw [if_pos c]
  · rw [if_neg c, if_pos (by rw [h]; exact Int32.not_lt.1 c)]
def kBq (r : Nat) : Nat → Nat → Prop := fun a k => a = r ∧ 4 ≤ k
theorem s_copy (h : M s 4 = 0) : sM (f_X6_copy R M r s) (n_X6_copy R M L r s) (fun a b => b = (a, L) ∧ a r 4 = 0 ∧ zag (kBq r) M a) := by
  unfold f_X6_copy n_X6_copy
  refine sM_lt fun M1 h1 => sM_lt fun M2 h2 => sM_lt fun M3 h3 => sM_lt fun M4 h4 => ?_
  have e4 : M4 r 4 = 0 := by rw [h4, zup_k (by omega), h3, zup_k (by omega), h2, zup_k (by omega), h1, zup_same, h]
  have g1 : zag (kBq r) M M1 := by rw [h1]; exact zag.rf.up ⟨rfl, by omega⟩
  have g2 : zag (kBq r) M M2 := by rw [h2]; exact g1.up ⟨rfl, by omega⟩
  have g3 : zag (kBq r) M M3 := by rw [h3]; exact g2.up ⟨rfl, by omega⟩
  have g4 : zag (kBq r) M M4 := by rw [h4]; exact g3.up ⟨rfl, by omega⟩
  have a1 : zloop zN (fun v => b_X6_copy_34 R v.2 r s v.1) ((0 : Int32), M4) = some M4 := zl1 (by
    show b_X6_copy_34 R M4 r s 0 = _
    unfold b_X6_copy_34
    rw [if_pos (by rw [e4]; exact Int32.le_refl _)])
  have a2 : zloop zN (fun v => nb_X6_copy_34 R v.2.1 v.2.2 r s v.1) ((0 : Int32), M4, L) = some (M4, L) := zl1 (by
    show nb_X6_copy_34 R M4 L r s 0 = _
    unfold nb_X6_copy_34
    rw [if_pos (by rw [e4]; exact Int32.le_refl _)])
  rw [a1, a2]
  exact sM_some ⟨rfl, e4, g4⟩
theorem earn0 (h : M r 4 = 0) : f_X7_earn R M q r = some M := by
  unfold f_X7_earn
  rw [zl1 (e := M) (by
    show b_X7_earn_2 R M q r 0 = _
    unfold b_X7_earn_2
    rw [if_pos (by rw [h]; exact Int32.le_refl _)])]
  rfl
theorem once0 (h : M r 4 = 0) : f_X7_payAtOnce R M q r = some M ∧ n_X7_payAtOnce R M L q r = some (M, L) := by
  unfold f_X7_payAtOnce n_X7_payAtOnce
  have a1 : zloop zN (fun v => b_X7_payAtOnce_2 R v.2 q r v.1) ((0 : Int32), M) = some M := zl1 (by
    show b_X7_payAtOnce_2 R M q r 0 = _
    unfold b_X7_payAtOnce_2
    rw [if_pos (by rw [h]; exact Int32.le_refl _)])
  have a2 : zloop zN (fun v => b_X7_payAtOnce_39 R v.2 q r v.1) ((0 : Int32), M) = some M := zl1 (by
    show b_X7_payAtOnce_39 R M q r 0 = _
    unfold b_X7_payAtOnce_39
    rw [if_pos (by rw [h]; exact Int32.le_refl _)])
  have a3 : zloop zN (fun v => nb_X7_payAtOnce_2 R v.2 L q r v.1) ((0 : Int32), M) = some M := zl1 (by
    show nb_X7_payAtOnce_2 R M L q r 0 = _
    unfold nb_X7_payAtOnce_2
    rw [if_pos (by rw [h]; exact Int32.le_refl _)])
  have a4 : zloop zN (fun v => nb_X7_payAtOnce_39 R v.2.1 v.2.2 q r v.1) ((0 : Int32), M, L) = some (M, L) := zl1 (by
    show nb_X7_payAtOnce_39 R M L q r 0 = _
    unfold nb_X7_payAtOnce_39
    rw [if_pos (by rw [h]; exact Int32.le_refl _)])
  rw [a1, a3]
  dsimp only [zbd]
  rw [a2, a4]
  exact ⟨rfl, rfl⟩
theorem turns0 (h : M r 4 = 0) : f_X7_payByTurns R M q r 0 = some M ∧ n_X7_payByTurns R M L q r 0 = some (M, L) := by
  unfold f_X7_payByTurns n_X7_payByTurns
  have a1 : zloop zN (fun v => b_X7_payByTurns_2 R v.2 q r 0 v.1) ((0 : Int32), M) = some M := zl1 (by
    show b_X7_payByTurns_2 R M q r 0 0 = _
    unfold b_X7_payByTurns_2
    rw [if_pos (by rw [h]; exact Int32.le_refl _)])
  have a2 : zloop zN (fun v => b_X7_payByTurns_29 R v.2 q r 0 v.1) ((0 : Int32), M) = some M := zl1 (by
    show b_X7_payByTurns_29 R M q r 0 0 = _
    unfold b_X7_payByTurns_29
    rw [if_pos (Int32.le_refl _)])
  have a3 : zloop zN (fun v => nb_X7_payByTurns_2 R v.2.1 v.2.2 q r 0 v.1) ((0 : Int32), M, L) = some (M, L) := zl1 (by
    show nb_X7_payByTurns_2 R M L q r 0 0 = _
    unfold nb_X7_payByTurns_2
    rw [if_pos (by rw [h]; exact Int32.le_refl _)])
  have a4 : zloop zN (fun v => nb_X7_payByTurns_29 R v.2.1 v.2.2 q r 0 v.1) ((0 : Int32), M, L) = some (M, L) := zl1 (by
    show nb_X7_payByTurns_29 R M L q r 0 0 = _
    unfold nb_X7_payByTurns_29
    rw [if_pos (Int32.le_refl _)])
  rw [a1, a3]
  dsimp only [zbd]
  rw [a2, a4]
  exact ⟨rfl, rfl⟩
theorem s_eve26 (h : M r 4 = 0) (x : Int32) : sM (j_X7_evening_26 R M q r x) (nj_X7_evening_26 R M L q r x) (fun a b => b = (a, L) ∧ a r 4 = 0 ∧ zag (kBq r) M a) := by
  unfold j_X7_evening_26 nj_X7_evening_26
  refine sM_lt fun M1 h1 => ?_
  have e4 : M1 r 4 = 0 := by rw [h1, zup_k (by omega), h]
  have g1 : zag (kBq r) M M1 := by rw [h1]; exact zag.rf.up ⟨rfl, by omega⟩
  refine sM_if (fun _ => sM_some ⟨rfl, e4, g1⟩) (fun _ => sM_ck (sM_if (fun _ => ?_) (fun _ => sM_some ⟨rfl, e4, g1⟩)))
  unfold f_X6_sharePot n_X6_sharePot
  have hn : ¬ 0 < M1 r 4 := by rw [e4]; exact Int32.lt_irrefl
  rw [if_neg hn, if_neg hn]
  exact sM_some ⟨rfl, e4, g1⟩
theorem s_eve (h : M r 4 = 0) (x : Int32) : sM (f_X7_evening R M q r x) (n_X7_evening R M L q r x) (fun a b => b = (a, L) ∧ a r 4 = 0 ∧ zag (kBq r) M a) := by
  unfold f_X7_evening n_X7_evening
  rw [earn0 h]
  show sM (if M q 7 = 0 then zbd (f_X7_payAtOnce R M q r) _ else zbd (f_X7_payByTurns R M q r 0) _) (if M q 7 = 0 then zbd2 (n_X7_payAtOnce R M L q r) _ else zbd2 (n_X7_payByTurns R M L q r 0) _) _
  rw [(once0 (L := L) h).1, (once0 (L := L) h).2, (turns0 (L := L) h).1, (turns0 (L := L) h).2]
  exact sM_if (fun _ => s_eve26 h x) (fun _ => s_eve26 h x)
theorem s_eves (h : M r 4 = 0) (c x : Int32) : sM (f_X7_evenings R M q r c x) (n_X7_evenings R M L q r c x) (fun a b => b = (a, L) ∧ a r 4 = 0 ∧ zag (kBq r) M a) := by
  unfold f_X7_evenings n_X7_evenings
  refine sM_bd (P := fun a b => b = (a, L) ∧ a r 4 = 0 ∧ zag (kBq r) M a) (sM_loop (fun v w => w = (v.1, v.2, L) ∧ v.2 r 4 = 0 ∧ zag (kBq r) M v.2) ⟨rfl, h, zag.rf⟩ ?_) ?_
  · rintro ⟨k, M1⟩ _ ⟨rfl, h1, g1⟩
    dsimp only at h1 g1 ⊢
    unfold b_X7_evenings_3 nb_X7_evenings_3
    refine sM_if (fun _ => sM_some ⟨rfl, h1, g1⟩) (fun _ => sM_b12 (s_eve h1 x) ?_)
    rintro M2 _ ⟨rfl, h2, g2⟩
    exact sM_some ⟨rfl, h2, g1.tr g2⟩
  · rintro a _ ⟨rfl, h1, g1⟩
    exact sM_some ⟨rfl, h1, g1⟩
/-- the ring is noted -/
theorem s_note70 (h : M 13 4 = 0) (x : Int32) : sM (j_X2_note_70 R M 18 18 x) (nj_X2_note_70 R M L 18 18 x) (fun a b => b = (a, L) ∧ a 13 4 = 0) := by
  unfold j_X2_note_70 nj_X2_note_70
  refine sM_lt fun M1 h1 => ?_
  have e4 : M1 13 4 = 0 := by rw [h1, zup_a (by omega), h]
  refine sM_if (fun _ => sM_some ⟨rfl, e4⟩) (fun _ => sM_lt fun M2 h2 => sM_some ⟨rfl, ?_⟩)
  rw [h2, zup_a (by omega), e4]
theorem s_note (C : kC R M q ru) (h : M 13 4 = 0) : sM (f_X2_note R M 18 13) (n_X2_note R M L 18 13) (fun a b => b = (a, L) ∧ a 13 4 = 0) := by
  obtain ⟨k1, k2, k3, k4, k5, k6⟩ := C.kr
  unfold f_X2_note n_X2_note
  refine sM_if (fun _ => sM_some ⟨rfl, h⟩) (fun h0 => sM_if (fun _ => sM_some ⟨rfl, h⟩) (fun h1 => sM_ck (sM_ck ?_)))
  rcases nI_cases (M 18 3) 30 (by omega) with ⟨x, hx, e⟩ | e | e
  rotate_left
  · exact absurd e h0
  · exact absurd e h1
  rw [e, k1, ztn_nI (by omega), (k4 x hx).1]
  refine sM_b12 (s_copy h) ?_
  rintro M2 _ ⟨rfl, h2, g2⟩
  have e2 : M2 13 4 = 0 := by rw [g2 13 4 (by unfold kBq; omega)]; exact h
  dsimp only
  exact sM_if (fun _ => s_note70 e2 _) (fun _ => s_note70 e2 _)
abbrev sMa (a : Int32 × zM) (b : Int32 × zM × zL) : Prop := a.1 = b.1
theorem s_run (C : kC R M q ru) (h : M 13 4 = 0) (x : Int32) : sM (f_X11_run R M 2 x) (n_X11_run R M L 2 x) sMa := by
  unfold f_X11_run n_X11_run j_X11_run_43 nj_X11_run_43
  rw [C.x2, C.x3, C.q8]
  refine sM_s fun b _ => sM_if (fun _ => sM_some rfl) (fun _ => sM_if (fun _ => sM_some rfl) (fun _ => sM_b12 (s_note C h) ?_))
  rintro M2 _ ⟨rfl, h2⟩
  refine sM_b12 (s_eves h2 _ _) ?_
  rintro M3 _ ⟨rfl, h3, _⟩
  exact sM_some rfl
theorem s_build (C : kC R M q ru) (h : M 13 4 = 0) (x y : Int32) : sM (f_X11_build R M 2 x y) (n_X11_build R M L 2 x y) sMa := by
  unfold f_X11_build n_X11_build
  obtain ⟨r0, r1, r2, r3⟩ := C.rg k13
  rw [C.x2, C.x3]
  refine sM_if (fun _ => sM_some rfl) (fun h0 => sM_if (fun _ => sM_some rfl) (fun h1 => sM_s fun b _ => sM_if (fun _ => sM_s fun b2 _ => sM_if (fun _ => sM_some rfl) (fun _ => sM_b12 (s_note C h) ?_)) (fun _ => sM_some rfl)))
  rintro M2 _ ⟨rfl, h2⟩
  refine sM_b12 (P := fun (a : zM) (b : zM × zL) => a 13 4 = b.1 13 4) ?_ (fun a b e => sM_some e)
  dsimp only
  have hx : x = 0 := by
    rw [h] at h1
    exact Int32.le_antisymm (Int32.not_lt.1 h1) (Int32.not_lt.1 h0)
  subst hx
  unfold f_X6_insert n_X6_insert
  rw [h2]
  refine sM_if (fun _ => sM_some rfl) (fun _ => sM_if (fun _ => sM_some rfl) (fun _ => sM_s fun b3 _ => sM_if (fun _ => ?_) (fun _ => sM_some rfl)))
  have a1 : zloop zN (fun v => b_X6_insert_25 R v.2 13 0 y v.1) ((0 : Int32), M2) = some M2 := zl1 (by
    show b_X6_insert_25 R M2 13 0 y 0 = _
    unfold b_X6_insert_25
    rw [if_pos (Int32.le_refl _)])
  have a2 : zloop zN (fun v => nb_X6_insert_25 R v.2.1 v.2.2 13 0 y v.1) ((0 : Int32), M2, L) = some (M2, L) := zl1 (by
    show nb_X6_insert_25 R M2 L 13 0 y 0 = _
    unfold nb_X6_insert_25
    rw [if_pos (Int32.le_refl _)])
  rw [a1, a2, zbd_s, zbd_s, r0, r1, r2, r3]
  dsimp only
  refine sM_lt fun M3 e3 => sM_ck (sM_lt fun M4 e4 => sM_ck (sM_lt fun M5 e5 => sM_ck (sM_lt fun M6 e6 => sM_ck ?_)))
  refine sM_some ?_
  show zup M6 (13 + 4) _ 0 13 4 = M6 13 4
  exact zup_a (by omega)
theorem s_becomes (C : kC R M q ru) (h : M 13 4 = 0) (x : Int32) : sM (f_X11_becomes R M 2 x) (n_X11_becomes R M L 2 x) sMa := by
  unfold f_X11_becomes n_X11_becomes j_X11_becomes_11 nj_X11_becomes_11 j_X11_becomes_32 nj_X11_becomes_32
  rw [C.x2, C.x4, C.q8]
  have g : ∀ y : Int32, sM (zbd2 (f_X1_period R M 187 q 13 y) fun r3 M4 => some (r3, M4)) (zbd3 (n_X1_period R M L 187 q 13 y) fun r3 M4 L5 => some (r3, M4, L5)) sMa := fun y => by
    refine sM_23 (P := sMa) ?_ (fun a b e => sM_some e)
    unfold f_X1_period n_X1_period
    refine sM_b12 (P := fun a b => b = (a, L)) ?_ ?_
    · unfold f_X1_walk n_X1_walk
      rw [C.f0]
      refine sM_b12 (s_copy h) ?_
      rintro M2 _ ⟨rfl, h2, g2⟩
      refine sM_bd (P := fun a b => b = (a, L)) (sM_loop (fun v w => w = (v.1, v.2, L) ∧ v.2 188 4 = 0) ⟨rfl, h2⟩ ?_) (fun a b e => by rw [e]; exact sM_some rfl)
      rintro ⟨k, M3⟩ _ ⟨rfl, h3⟩
      dsimp only at h3 ⊢
      unfold b_X1_walk_10 nb_X1_walk_10
      rw [C.f0, C.f1]
      refine sM_if (fun _ => sM_some rfl) (fun _ => sM_ck (sM_lt fun M4 e4 => ?_))
      have h4 : M4 188 4 = 0 := by rw [e4, zup_a (by omega), h3]
      have a1 : zloop zN (fun v => b_X1_walk_40 R v.2 187 q k (k * 11) v.1) ((0 : Int32), M4) = some M4 := zl1 (by
        show b_X1_walk_40 R M4 187 q k (k * 11) 0 = _
        unfold b_X1_walk_40
        rw [if_neg (by decide), C.f0, has0 h4]
        rfl)
      have a2 : zloop zN (fun v => nb_X1_walk_40 R v.2 L 187 q k (k * 11) v.1) ((0 : Int32), M4) = some M4 := zl1 (by
        show nb_X1_walk_40 R M4 L 187 q k (k * 11) 0 = _
        unfold nb_X1_walk_40
        rw [if_neg (by decide), C.f0, has0 h4]
        rfl)
      rw [a1, a2]
      show sM (zbd (f_X7_evening _ _ _ _ _) _) (zbd2 _ _) _
      refine sM_b12 (s_eve h4 _) ?_
      rintro M5 _ ⟨rfl, h5, _⟩
      exact sM_some ⟨rfl, h5⟩
    · rintro M1 _ rfl
      dsimp only
      have e1 : (fun v => nb_X1_period_9 R M1 L 187 y v) = fun v => b_X1_period_9 R M1 187 y v := funext fun v => by
        unfold nb_X1_period_9 b_X1_period_9
        have e2 : (fun w => nb_X1_period_20 R M1 L 187 y v w) = fun w => b_X1_period_20 R M1 187 y v w := rfl
        rw [e2]
      rw [e1]
      refine sM_s fun e _ => ?_
      cases e
      · exact sM_if (fun _ => sM_some rfl) (fun _ => sM_some rfl)
      · exact sM_some rfl
  exact sM_if (fun _ => sM_if (fun _ => g _) (fun _ => g _)) (fun _ => sM_if (fun _ => sM_if (fun _ => g _) (fun _ => g _)) (fun _ => sM_some rfl))
theorem s_apart (C : kC R M q ru) (h : M 13 4 = 0) (x : Int32) : sM (f_X11_apart R M 2 x) (n_X11_apart R M L 2 x) sMa := by
  unfold f_X11_apart n_X11_apart
  rw [C.x2, C.x4, C.q8]
  refine sM_s fun b _ => sM_if (fun _ => sM_some rfl) (fun _ => sM_23 (P := sMa) ?_ (fun a b e => sM_some e))
  unfold f_X1_spreadAfter n_X1_spreadAfter
  rw [C.f0]
  refine sM_b12 (s_copy h) ?_
  rintro M2 _ ⟨rfl, h2, _⟩
  refine sM_b12 (s_eves h2 _ _) ?_
  rintro M3 _ ⟨rfl, h3, _⟩
  exact sM_s fun y _ => sM_some rfl
theorem s_evenA (f0 : R 187 0 = 188) (h : M 13 4 = 0) (x y : Int32) : sM (f_X1_evenAfter R M 187 q 13 x y) (n_X1_evenAfter R M L 187 q 13 x y) (fun a b => b = (a.1, a.2, L) ∧ a.2 13 4 = 0) := by
  unfold f_X1_evenAfter n_X1_evenAfter
  rw [f0]
  refine sM_b12 (s_copy h) ?_
  rintro M2 _ ⟨rfl, h2, g2⟩
  refine sM_bd (P := fun a b => (∃ u N, a = .inl (u, N) ∧ b = .inl (u, N, L) ∧ N 13 4 = 0) ∨ ∃ N, a = .inr N ∧ b = .inr (N, L) ∧ N 13 4 = 0) (sM_loop (fun v w => w = (v.1, v.2, L) ∧ v.2 188 4 = 0 ∧ v.2 13 4 = 0) ⟨rfl, h2, by show M2 13 4 = 0; rw [g2 13 4 (by unfold kBq; omega)]; exact h⟩ ?_) ?_
  · rintro ⟨k, M3⟩ _ ⟨rfl, h3, h13⟩
    dsimp only at h3 h13 ⊢
    unfold b_X1_evenAfter_11 nb_X1_evenAfter_11
    rw [f0]
    refine sM_if (fun _ => sM_some (Or.inr ⟨M3, rfl, rfl, h13⟩)) (fun _ => sM_s fun z _ => sM_if (fun _ => sM_b12 (s_eve h3 _) ?_) (fun _ => sM_some (Or.inl ⟨k, M3, rfl, rfl, h13⟩)))
    rintro M4 _ ⟨rfl, h4, g4⟩
    exact sM_some ⟨rfl, h4, by show M4 13 4 = 0; rw [g4 13 4 (by unfold kBq; omega)]; exact h13⟩
  · rintro a b (⟨u, N, rfl, rfl, h13⟩ | ⟨N, rfl, rfl, h13⟩)
    · exact sM_some ⟨rfl, h13⟩
    · exact sM_some ⟨rfl, h13⟩
theorem s_even (C : kC R M q ru) (h : M 13 4 = 0) (x y : Int32) : sM (f_X11_even R M 2 x y) (n_X11_even R M L 2 x y) sMa := by
  unfold f_X11_even n_X11_even
  rw [C.x2, C.x4, C.q8]
  refine sM_if (fun _ => sM_some rfl) (fun _ => sM_if (fun _ => sM_some rfl) (fun _ => sM_if (fun _ => sM_23 (s_evenA C.f0 h _ _) ?_) (fun _ => sM_some rfl)))
  rintro a _ ⟨rfl, _⟩
  exact sM_some rfl
theorem s_soonest (C : kC R M q ru) (h : M 13 4 = 0) (x : Int32) : sM (f_X11_soonest R M 2 x) (n_X11_soonest R M L 2 x) sMa := by
  unfold f_X11_soonest n_X11_soonest
  rw [C.x2, C.x4, C.q8]
  refine sM_if (fun _ => sM_23 (P := sMa) ?_ (fun a b e => sM_some e)) (fun _ => sM_some rfl)
  unfold f_X1_soonestSharing n_X1_soonestSharing
  refine sM_bd (P := fun a b => b = (a.1, a.2, L)) (sM_loop (fun v w => w = (v.1, v.2.1, v.2.2.1, v.2.2.2, L) ∧ v.2.2.2 13 4 = 0) ⟨rfl, h⟩ ?_) (fun a b e => by rw [e]; exact sM_some rfl)
  rintro ⟨a, b, k, M3⟩ _ ⟨rfl, h3⟩
  dsimp only at h3 ⊢
  unfold b_X1_soonestSharing_12 nb_X1_soonestSharing_12
  refine sM_if (fun _ => sM_some rfl) (fun _ => sM_23 (s_evenA C.f0 h3 _ _) ?_)
  rintro ⟨z, M4⟩ _ ⟨rfl, h4⟩
  exact sM_if (fun _ => sM_some ⟨rfl, h4⟩) (fun _ => sM_if (fun _ => sM_some ⟨rfl, h4⟩) (fun _ => sM_some ⟨rfl, h4⟩))
theorem want_f (C : kC R M q ru) (hr : kRg r) (h : kCt M) (x : Int32) : zT (f_X7_wanted R M q r x) (fun p => zag (fun b _ => b = q + 4 ∨ b = q + 8 ∨ b = q + 10) M p.2) := by
  obtain ⟨n, w, hw⟩ := (kW.rf (L := fun _ _ => 0) h).rw hr
  have hl := hr.lt
  have hq := C.qq
  have hn := hw.1
  rcases nI_cases x n (by omega) with ⟨k, hk, rfl⟩ | hx
  · refine zT_w (X7_wanted C.cr C.ok (C.rg hr) hw (by omega) hk) ?_
    rintro ⟨y, M1⟩ ⟨_, g⟩
    exact g
  · unfold f_X7_wanted
    exact zT_bd (zT_eq (hz_no hw hx) (zT_if1 rfl (zT_some zag.rf)))
def kWn (q : Nat) : Nat → Nat → Prop := fun b _ => b = q + 4 ∨ b = q + 8 ∨ b = q + 10
theorem kC.wn (C : kC R M q ru) (g : zag (kWn q) M M1) : kC R M1 q ru := ⟨C.1, C.2.1, C.2.2.1, C.2.2.2.1, C.cr.eq (fun b k p1 p2 p3 => g b k (by have := C.qq; unfold kWn; omega))⟩
theorem kCt.wn (hq : q = 218 ∨ q = 230) (h : kCt M) (g : zag (kWn q) M M1) : kCt M1 := fun r hr => by
  obtain ⟨n, hn, e⟩ := h r hr
  exact ⟨n, hn, by rw [g r 4 (by have := hr.lt; unfold kWn; omega)]; exact e⟩
theorem site44_f (C : kC R M q ru) (h : kCt M) (x a : Int32) (y : Int64) (k : Int32) : zT (zloop zN (fun v => b_X0_bestSite_44 R v.2.2 194 q 13 x a y k v.1 v.2.1) ((0 : Int64), (0 : Int32), M)) (fun p => zag (kWn q) M p.2) := by
  refine zT_for 10 (fun j v => v.2.1 = nI j ∧ zag (kWn q) M v.2.2) ⟨rfl, zag.rf⟩ (by omega) ?_ ?_
  · rintro j ⟨s, y2, M5⟩ hj ⟨e5, g5⟩
    dsimp only at e5 g5 ⊢
    subst e5
    unfold b_X0_bestSite_44
    rw [C.d0]
    refine zT_if (fun _ => zT_some g5) (fun _ => zT_bd2 (zT_w (want_f (C.wn g5) k195 (h.wn C.qq g5) _) ?_))
    rintro ⟨y3, M6⟩ g6
    exact zT_some ⟨nI_1 j, g5.tr g6⟩
  · rintro ⟨s, y2, M5⟩ ⟨e5, g5⟩
    dsimp only at e5 g5 ⊢
    subst e5
    unfold b_X0_bestSite_44
    rw [C.d0]
    obtain ⟨n, hn, e⟩ := h.wn C.qq g5 195 k195
    rw [e]
    exact zT_if1 (nI_le (by omega) (by omega)) (zT_some g5)
theorem zT_at {α : Type} {x : Option α} {P : α → Prop} {a : α} (h : zT x P) (e : x = some a) : P a := by
  obtain ⟨b, e1, p⟩ := h
  rw [e] at e1
  cases e1
  exact p
theorem s_site (C : kC R M q ru) (hct : kCt M) (h : M 13 4 = 0) (h199 : M 199 0 = 0) (x : Int32) : sM (f_X11_site R M 2 x) (n_X11_site R M L 2 x) sMa := by
  unfold f_X11_site n_X11_site
  obtain ⟨r0, r1, r2, r3⟩ := C.rg k195
  rw [C.x2, C.x5, C.q8]
  refine sM_s fun b _ => sM_if (fun _ => sM_some rfl) (fun _ => sM_s fun b2 _ => sM_if (fun _ => sM_23 (P := sMa) ?_ (fun a b e => sM_some e)) (fun _ => sM_some rfl))
  unfold f_X0_bestSite n_X0_bestSite
  refine sM_bd (P := fun a b => a.1 = b.1) (sM_loop (fun v w => (v.2.2.1 = 0 ∧ v.2.2.2 = M ∧ w = (v.1, v.2.1, v.2.2.1, v.2.2.2, L)) ∨ (v.2.2.1 = 1 ∧ v.2.2.2 13 4 = 0 ∧ ∃ L1, w = (v.1, v.2.1, v.2.2.1, v.2.2.2, L1))) (Or.inl ⟨rfl, rfl, rfl⟩) ?_) (fun a b e => sM_some e)
  rintro ⟨a, y, k, M3⟩ _ (⟨e1, e2, rfl⟩ | ⟨e1, h3, L1, rfl⟩)
  · dsimp only at e1 e2 ⊢
    subst e1
    subst e2
    unfold b_X0_bestSite_11 nb_X0_bestSite_11
    rw [h, C.d0, if_neg Int32.lt_irrefl, if_neg Int32.lt_irrefl]
    refine sM_b12 (P := fun a b => b = (a, L) ∧ a 195 4 = 0 ∧ zag (kBq 195) M3 a) (s_copy h) ?_
    rintro M4 _ ⟨rfl, h4, g4⟩
    dsimp only
    refine sM_b12 (P := fun a b => b.1 = a ∧ a 13 4 = 0 ∧ zag (fun c j => 195 ≤ c ∧ c < 200) M3 a ∧ a 195 4 = 1) ?_ ?_
    · unfold f_X6_insert n_X6_insert
      rw [h4]
      refine sM_if (fun z => absurd z (by decide)) (fun _ => sM_if (fun z => absurd z (by decide)) (fun _ => ?_))
      have ff : f_X6_isFull M4 195 = some 0 := by
        unfold f_X6_isFull
        rw [if_pos (by rw [h4]; decide)]
      rw [ff, zbd_s, zbd_s, if_pos rfl, if_pos rfl]
      have a1 : zloop zN (fun v => b_X6_insert_25 R v.2 195 0 x v.1) ((0 : Int32), M4) = some M4 := zl1 (by
        show b_X6_insert_25 R M4 195 0 x 0 = _
        unfold b_X6_insert_25
        rw [if_pos (Int32.le_refl _)])
      have a2 : zloop zN (fun v => nb_X6_insert_25 R v.2.1 v.2.2 195 0 x v.1) ((0 : Int32), M4, L) = some (M4, L) := zl1 (by
        show nb_X6_insert_25 R M4 L 195 0 x 0 = _
        unfold nb_X6_insert_25
        rw [if_pos (Int32.le_refl _)])
      rw [a1, a2, zbd_s, zbd_s, r0, r1, r2, r3]
      dsimp only
      rw [h4]
      refine sM_lt fun M5 e5 => sM_ck (sM_lt fun M6 e6 => sM_ck (sM_lt fun M7 e7 => sM_ck (sM_lt fun M8 e8 => sM_ck ?_)))
      have X : zag (fun c j => 195 ≤ c ∧ c < 200) M3 M8 := by
        have g5 : zag (fun c j => 195 ≤ c ∧ c < 200) M3 M5 := by rw [e5]; exact (g4.mo (fun c j z => by unfold kBq at z; omega)).up (by omega)
        have g6 : zag (fun c j => 195 ≤ c ∧ c < 200) M3 M6 := by rw [e6]; exact g5.up (by omega)
        have g7 : zag (fun c j => 195 ≤ c ∧ c < 200) M3 M7 := by rw [e7]; exact g6.up (by omega)
        rw [e8]
        exact g7.up (by omega)
      have z199 : M8 199 0 = 0 := by
        rw [e8, zup_a (by omega), e7, zup_a (by omega), e6, zup_a (by omega), e5, zup_a (by omega), g4 199 0 (by unfold kBq; omega)]
        exact h199
      have eid : zup M8 (195 + 4) (ztn 0) 0 = M8 := by
        funext c j
        unfold zup
        by_cases ec : c = 195 + 4
        · rw [if_pos ec]
          by_cases ej : j = ztn 0
          · rw [if_pos ej, ec, ej]
            exact z199.symm
          · rw [if_neg ej]
        · rw [if_neg ec]
      refine sM_some ?_
      show M8 = zup M8 (195 + 4) (ztn 0) 0 ∧ zup M8 (195 + 4) (ztn 0) 0 13 4 = 0 ∧ zag _ M3 (zup M8 (195 + 4) (ztn 0) 0) ∧ zup M8 (195 + 4) (ztn 0) 0 195 4 = 1
      rw [eid]
      refine ⟨rfl, by rw [X 13 4 (by omega)]; exact h, X, ?_⟩
      rw [e8, zup_a (by omega), e7, zup_a (by omega), e6, zup_a (by omega), e5, zup_same]
      rfl
    · rintro M5 ⟨M5', L5⟩ ⟨e5, h5, g5, c5⟩
      dsimp only at e5 ⊢
      subst e5
      have C5 : kC R M5' q ru := ⟨C.1, C.2.1, C.2.2.1, C.2.2.2.1, C.cr.eq (fun b k p1 p2 p3 => g5 b k (by have := C.qq; omega))⟩
      have ct5 : kCt M5' := fun r hr => by
        by_cases er : r = 195
        · subst er
          exact ⟨1, by omega, c5⟩
        · obtain ⟨n, hn, en⟩ := hct r hr
          exact ⟨n, hn, by rw [g5 r 4 (by unfold kRg at hr; omega)]; exact en⟩
      have e44 : (fun v : Int64 × Int32 × zM => nb_X0_bestSite_44 R v.2.2 L5 194 q 13 x a y 0 v.1 v.2.1) = fun v => b_X0_bestSite_44 R v.2.2 194 q 13 x a y 0 v.1 v.2.1 := rfl
      rw [e44]
      refine sM_s fun e he => ?_
      have hz := zT_at (site44_f C5 ct5 x a y 0) he
      have e13 : e.2 13 4 = 0 := by rw [hz 13 4 (by have := C.qq; unfold kWn; omega)]; exact h5
      exact sM_if (fun _ => sM_some (Or.inr ⟨rfl, e13, L5, rfl⟩)) (fun _ => sM_some (Or.inr ⟨rfl, e13, L5, rfl⟩))
  · dsimp only at e1 h3 ⊢
    subst e1
    unfold b_X0_bestSite_11 nb_X0_bestSite_11
    rw [h3, if_pos (by decide), if_pos (by decide)]
    exact sM_some rfl
theorem s_rests (C : kC R M q ru) (h : M 13 4 = 0) (x y : Int32) : sM (f_X11_rests R M 2 x y) (n_X11_rests R M L 2 x y) sMa := by
  unfold f_X11_rests n_X11_rests
  rw [C.x2, C.x6, C.q8]
  refine sM_s fun b _ => sM_if (fun _ => sM_some rfl) (fun _ => sM_if (fun _ => sM_if (fun _ => sM_23 (P := sMa) ?_ (fun a b e => sM_some e)) (fun _ => sM_some rfl)) (fun _ => sM_some rfl))
  unfold f_X4_restAt n_X4_restAt
  refine sM_if (fun _ => sM_bd (P := fun a b => b = (a, L)) (sM_loop (fun v w => w = (v.1, v.2, L) ∧ v.2 13 4 = 0) ⟨rfl, h⟩ ?_) ?_) (fun _ => sM_some rfl)
  · rintro ⟨k, M3⟩ _ ⟨rfl, h3⟩
    dsimp only at h3 ⊢
    unfold b_X4_restAt_23 nb_X4_restAt_23
    refine sM_if (fun _ => sM_some rfl) (fun _ => sM_b12 (P := fun a b => b = (a, L) ∧ a 13 4 = 0) ?_ (fun a b e => by rw [e.1]; exact sM_some ⟨rfl, e.2⟩))
    unfold f_X4_follow n_X4_follow
    rw [C.p0]
    refine sM_b12 (s_copy h3) ?_
    rintro M4 _ ⟨rfl, h4, g4⟩
    dsimp only
    have a1 : zloop zN (fun v => b_X4_follow_11 R v.2 200 q x k v.1) ((0 : Int32), M4) = some M4 := zl1 (by
      show b_X4_follow_11 R M4 200 q x k 0 = _
      unfold b_X4_follow_11
      rw [if_neg (by decide), C.p0, has0 h4]
      rfl)
    have a2 : zloop zN (fun v => nb_X4_follow_11 R v.2 L 200 q x k v.1) ((0 : Int32), M4) = some M4 := zl1 (by
      show nb_X4_follow_11 R M4 L 200 q x k 0 = _
      unfold nb_X4_follow_11
      rw [if_neg (by decide), C.p0, has0 h4]
      rfl)
    rw [a1, a2]
    show sM (zbd (f_X7_evening _ _ _ _ _) _) (zbd2 _ _) _
    refine sM_b12 (s_eve h4 _) ?_
    rintro M5 _ ⟨rfl, h5, g5⟩
    dsimp only
    have b1 : zloop zN (fun v => b_X4_follow_90 R v.2 200 k v.1) ((0 : Int32), M5) = some M5 := zl1 (by
      show b_X4_follow_90 R M5 200 k 0 = _
      unfold b_X4_follow_90
      rw [if_neg (by decide), C.p0, has0 h5]
      rfl)
    have b2 : zloop zN (fun v => nb_X4_follow_90 R v.2 L 200 k v.1) ((0 : Int32), M5) = some M5 := zl1 (by
      show nb_X4_follow_90 R M5 L 200 k 0 = _
      unfold nb_X4_follow_90
      rw [if_neg (by decide), C.p0, has0 h5]
      rfl)
    rw [b1, b2]
    exact sM_some ⟨rfl, by rw [g5 13 4 (by unfold kBq; omega), g4 13 4 (by unfold kBq; omega)]; exact h3⟩
  · rintro M3 _ rfl
    dsimp only
    refine sM_s fun e _ => ?_
    cases e
    · exact sM_some rfl
    · exact sM_if (fun _ => sM_some rfl) (fun _ => sM_some rfl)
theorem s_go (t5 : R 207 5 = 213) (h : M 13 4 = 0) (x y z : Int32) : sM (f_X10_goThrough R M 207 q 13 x y z) (n_X10_goThrough R M L 207 q 13 x y z) (fun a b => b.1 = a) := by
  unfold f_X10_goThrough n_X10_goThrough
  rw [t5]
  refine sM_lt fun M1 e1 => sM_lt fun M2 e2 => sM_lt fun M3 e3 => ?_
  have h3 : M3 13 4 = 0 := by rw [e3, zup_a (by omega), e2, zup_a (by omega), e1, zup_a (by omega), h]
  refine sM_b12 (s_copy h3) ?_
  rintro M4 _ ⟨rfl, h4, g4⟩
  dsimp only
  have a1 : zloop zN (fun v => b_X10_goThrough_26 R v.2 207 q 13 x y z v.1) ((0 : Int32), M4) = some M4 := zl1 (by
    show b_X10_goThrough_26 R M4 207 q 13 x y z 0 = _
    unfold b_X10_goThrough_26
    rw [if_neg (by decide), t5, has0 h4]
    rfl)
  have a2 : zloop zN (fun v => nb_X10_goThrough_26 R v.2 L 207 q 13 x y z v.1) ((0 : Int32), M4) = some M4 := zl1 (by
    show nb_X10_goThrough_26 R M4 L 207 q 13 x y z 0 = _
    unfold nb_X10_goThrough_26
    rw [if_neg (by decide), t5, has0 h4]
    rfl)
  have a3 : f_X10_startRows R M4 207 x = some (1, M4) := by
    unfold f_X10_startRows
    rw [zl1 (e := .inr M4) (by
      show b_X10_startRows_2 R M4 207 x 0 = _
      unfold b_X10_startRows_2
      rw [if_neg (by decide), t5, has0 h4]
      rfl)]
    rfl
  rw [a1, a2]
  show sM (zbd2 (f_X10_startRows R M4 207 x) _) (zbd2 (f_X10_startRows R M4 207 x) _) _
  rw [a3]
  show sM (zbd _ _) (zbd _ _) _
  refine sM_bd (P := fun a b => b = (a, L)) (sM_loop (fun v w => w = (v.1, v.2.1, v.2.2, L) ∧ v.2.2 213 4 = 0) ⟨rfl, h4⟩ ?_) (fun a b e => by rw [e]; exact sM_some rfl)
  rintro ⟨m, k, M5⟩ _ ⟨rfl, h5⟩
  dsimp only at h5 ⊢
  unfold b_X10_goThrough_72 nb_X10_goThrough_72
  refine sM_if (fun _ => sM_some rfl) (fun _ => sM_if (fun _ => sM_some rfl) (fun _ => ?_))
  have b1 : zloop zN (fun v => b_X10_goThrough_87 R v.2 207 q 13 x y z k v.1) ((0 : Int32), M5) = some M5 := zl1 (by
    show b_X10_goThrough_87 R M5 207 q 13 x y z k 0 = _
    unfold b_X10_goThrough_87
    by_cases c : z = 0
    · rw [if_pos c]
    · rw [if_neg c, if_neg (by decide), t5, has0 h5]
      rfl)
  have b2 : zloop zN (fun v => nb_X10_goThrough_87 R v.2 L 207 q 13 x y z k v.1) ((0 : Int32), M5) = some M5 := zl1 (by
    show nb_X10_goThrough_87 R M5 L 207 q 13 x y z k 0 = _
    unfold nb_X10_goThrough_87
    by_cases c : z = 0
    · rw [if_pos c]
    · rw [if_neg c, if_neg (by decide), t5, has0 h5]
      rfl)
  rw [b1, b2, t5, zbd_s, zbd_s]
  refine sM_lt fun M6 e6 => ?_
  have h6 : M6 213 4 = 0 := by rw [e6, zup_k (by omega), h5]
  have c1 : zloop zN (fun v => b_X10_paysAsKnown_2 R v.2 207 q v.1) ((0 : Int32), M6) = some M6 := zl1 (by
    show b_X10_paysAsKnown_2 R M6 207 q 0 = _
    unfold b_X10_paysAsKnown_2
    rw [if_neg (by decide), t5, has0 h6]
    rfl)
  have c2 : zloop zN (fun v => nb_X10_paysAsKnown_2 R v.2 L 207 q v.1) ((0 : Int32), M6) = some M6 := zl1 (by
    show nb_X10_paysAsKnown_2 R M6 L 207 q 0 = _
    unfold nb_X10_paysAsKnown_2
    rw [if_neg (by decide), t5, has0 h6]
    rfl)
  have d1 : zloop zN (fun v => b_X10_paysAsKnown_42 R v.2 207 q v.1) ((0 : Int32), M6) = some (.inr M6) := zl1 (by
    show b_X10_paysAsKnown_42 R M6 207 q 0 = _
    unfold b_X10_paysAsKnown_42
    by_cases c : M6 207 7 < 0
    · rw [if_pos c]
    · rw [if_neg c, if_neg (by decide), t5, has0 h6]
      rfl)
  have d2 : zloop zN (fun v => nb_X10_paysAsKnown_42 R v.2.1 v.2.2 207 q v.1) ((0 : Int32), M6, L) = some (.inr (M6, L)) := zl1 (by
    show nb_X10_paysAsKnown_42 R M6 L 207 q 0 = _
    unfold nb_X10_paysAsKnown_42
    by_cases c : M6 207 7 < 0
    · rw [if_pos c]
    · rw [if_neg c, if_neg (by decide), t5, has0 h6]
      rfl)
  have p1 : f_X10_paysAsKnown R M6 207 q = some (1, M6) := by
    unfold f_X10_paysAsKnown
    rw [c1]
    show zbd (zloop zN (fun v => b_X10_paysAsKnown_42 R v.2 207 q v.1) ((0 : Int32), M6)) _ = _
    rw [d1]
    rfl
  have p2 : n_X10_paysAsKnown R M6 L 207 q = some (1, M6, L) := by
    unfold n_X10_paysAsKnown
    rw [c2]
    show zbd (zloop zN (fun v => nb_X10_paysAsKnown_42 R v.2.1 v.2.2 207 q v.1) ((0 : Int32), M6, L)) _ = _
    rw [d2]
    rfl
  rw [p1, p2, zbd2_s, zbd3_s, if_neg (by decide), if_neg (by decide)]
  have st : ∀ M7 : zM, M7 213 4 = 0 → sM (j_X10_goThrough_164 R M7 207 q 13 x y z k) (nj_X10_goThrough_164 R M7 L 207 q 13 x y z k) (sMr (fun (v : Int32 × Int32 × zM) (w : Int32 × Int32 × zM × zL) => w = (v.1, v.2.1, v.2.2, L) ∧ v.2.2 213 4 = 0) (fun (a : zM) (b : zM × zL) => b = (a, L))) := fun M7 h7 => by
    unfold j_X10_goThrough_164 nj_X10_goThrough_164
    have q1 : f_X10_stepRow R M7 207 x = some (0, M7) := by
      unfold f_X10_stepRow
      rw [zl1 (e := .inr M7) (by
        show b_X10_stepRow_2 R M7 207 x 0 = _
        unfold b_X10_stepRow_2
        rw [if_neg (by decide), t5, has0 h7]
        rfl)]
      rfl
    rw [q1]
    exact sM_some ⟨rfl, h7⟩
  refine sM_s fun M7 e7 => st M7 ?_
  unfold f_X10_note at e7
  obtain ⟨M8, e8, e7⟩ := zlt_e e7
  have h8 : M8 213 4 = 0 := by rw [e8, zup_a (by omega), h6]
  by_cases w0 : y < 0
  · rw [if_pos w0] at e7
    cases e7
    exact h8
  · rw [if_neg w0] at e7
    by_cases w1 : y < 10
    · rw [if_pos w1] at e7
      obtain ⟨-, e7⟩ := zck_e e7
      obtain ⟨M9, e9, e7⟩ := zlt_e e7
      obtain ⟨-, e7⟩ := zck_e e7
      obtain ⟨M10, e10, e7⟩ := zlt_e e7
      cases e7
      rw [e10, zup_a (by omega), e9, zup_a (by omega)]
      exact h8
    · rw [if_neg w1] at e7
      cases e7
      exact h8
theorem s_fits (C : kC R M q ru) (h : M 13 4 = 0) (h6 : M 207 6 = 0) (x y : Int32) : sM (f_X11_fits R M 2 x y) (n_X11_fits R M L 2 x y) sMa := by
  unfold f_X11_fits n_X11_fits
  rw [C.x2, C.x7, C.q8]
  refine sM_s fun b _ => sM_if (fun _ => sM_some rfl) (fun _ => sM_if (fun _ => sM_some rfl) (fun _ => sM_if (fun _ => sM_s fun r6 _ => sM_if (fun _ => sM_b12 (P := fun a b => b.1 = a) ?_ (fun a b e => by rw [e]; exact sM_some rfl)) (fun _ => sM_some rfl)) (fun _ => sM_some rfl)))
  unfold f_X10_goThroughFits n_X10_goThroughFits
  refine sM_lt fun M1 e1 => ?_
  have k1 : M1 13 4 = 0 ∧ M1 207 6 = 0 := ⟨by rw [e1, zup_a (by omega), h], by rw [e1, zup_k (by omega), h6]⟩
  refine sM_bd (P := fun a b => b = a ∧ a 13 4 = 0 ∧ a 207 6 = 0) (sM_loop (fun v w => w = v ∧ v.2 13 4 = 0 ∧ v.2 207 6 = 0) ⟨rfl, k1⟩ ?_) ?_
  · rintro ⟨k, M2⟩ _ ⟨rfl, k2, k3⟩
    dsimp only at k2 k3 ⊢
    unfold b_X10_goThroughFits_8 nb_X10_goThroughFits_8
    rw [C.t2, C.t3]
    refine sM_if (fun _ => sM_some ⟨rfl, k2, k3⟩) (fun _ => sM_ck (sM_lt fun M3 e3 => sM_ck (sM_lt fun M4 e4 => sM_some ⟨rfl, ?_, ?_⟩)))
    · show M4 13 4 = 0
      rw [e4, zup_a (by omega), e3, zup_a (by omega), k2]
    · show M4 207 6 = 0
      rw [e4, zup_a (by omega), e3, zup_a (by omega), k3]
  · rintro _ M2 ⟨rfl, k2, k3⟩
    have a1 : zloop zN (fun v => b_X10_goThroughFits_40 R v.2 207 q 13 x y 0 v.1) ((0 : Int32), M2) = some M2 := zl1 (by
      show b_X10_goThroughFits_40 R M2 207 q 13 x y 0 0 = _
      unfold b_X10_goThroughFits_40
      by_cases c : y ≤ 0
      · rw [if_pos c]
      · rw [if_neg c, if_pos (by rw [k3]; exact Int32.le_refl _)])
    have a2 : zloop zN (fun v => nb_X10_goThroughFits_40 R v.2 L 207 q 13 x y 0 v.1) ((0 : Int32), M2) = some M2 := zl1 (by
      show nb_X10_goThroughFits_40 R M2 L 207 q 13 x y 0 0 = _
      unfold nb_X10_goThroughFits_40
      by_cases c : y ≤ 0
      · rw [if_pos c]
      · rw [if_neg c, if_pos (by rw [k3]; exact Int32.le_refl _)])
    rw [a1, a2]
    show sM (zbd (f_X10_goThrough _ _ _ _ _ _ _ _) _) (zbd2 _ _) _
    exact sM_b12 (s_go C.t5 k2 x 0 0) (fun a b e => by rw [← e]; exact sM_some rfl)
theorem s_ago (C : kC R M q ru) (h : M 13 4 = 0) (x : Int32) : sM (f_X11_ago R M 2 x) (n_X11_ago R M L 2 x) sMa := by
  unfold f_X11_ago n_X11_ago
  rw [C.x2, C.x7, C.q8]
  refine sM_s fun b _ => sM_if (fun _ => sM_some rfl) (fun _ => sM_s fun r6 _ => sM_if (fun _ => sM_b12 (P := fun a b => b.1 = a) ?_ (fun a b e => by rw [e]; exact sM_some rfl)) (fun _ => sM_some rfl))
  unfold f_X10_goThroughAgo n_X10_goThroughAgo
  refine sM_lt fun M1 e1 => ?_
  have k1 : M1 13 4 = 0 := by rw [e1, zup_a (by omega), h]
  have a1 : zloop zN (fun v => b_X10_goThroughAgo_13 R v.2 207 q 13 x v.1) ((0 : Int32), M1) = some M1 := zl1 (by
    show b_X10_goThroughAgo_13 R M1 207 q 13 x 0 = _
    unfold b_X10_goThroughAgo_13
    rw [if_neg (by decide), has0 k1]
    rfl)
  have a2 : zloop zN (fun v => nb_X10_goThroughAgo_13 R v.2 L 207 q 13 x v.1) ((0 : Int32), M1) = some M1 := zl1 (by
    show nb_X10_goThroughAgo_13 R M1 L 207 q 13 x 0 = _
    unfold nb_X10_goThroughAgo_13
    rw [if_neg (by decide), has0 k1]
    rfl)
  rw [a1, a2]
  show sM (zbd (f_X10_goThrough _ _ _ _ _ _ _ _) _) (zbd2 _ _) _
  exact sM_b12 (s_go C.t5 k1 x 0 1) (fun a b e => by rw [← e]; exact sM_some rfl)
/-! no such house -/
theorem s_house (C : kC R M q ru) (h : M 13 4 = 0) (x y : Int32) : sM (f_X11_house R M 2 x y) (n_X11_house R M L 2 x y) (fun a b => a.1 = b.1) := by
  unfold f_X11_house n_X11_house
  rw [C.x2, has0 h]
  exact sM_some rfl
theorem s_give (C : kC R M q ru) (h : M 13 4 = 0) (x y z : Int32) : sM (f_X11_give R M 2 x y z) (n_X11_give R M L 2 x y z) sMa := by
  unfold f_X11_give n_X11_give
  rw [C.x2, has0 h]
  exact sM_some rfl
theorem s_hide (C : kC R M q ru) (h : M 13 4 = 0) (x y : Int32) : sM (f_X11_hide R M 2 x y) (n_X11_hide R M L 2 x y) sMa := by
  unfold f_X11_hide n_X11_hide
  rw [C.x2, has0 h]
  exact sM_some rfl
theorem s_grab (C : kC R M q ru) (h : M 13 4 = 0) (x : Int32) : sM (f_X11_grab R M 2 x) (n_X11_grab R M L 2 x) sMa := by
  unfold f_X11_grab n_X11_grab
  rw [C.x2, has0 h]
  exact sM_some rfl
theorem s_burn (C : kC R M q ru) (h : M 13 4 = 0) (x : Int32) : sM (f_X11_burn R M 2 x) (n_X11_burn R M L 2 x) sMa := by
  unfold f_X11_burn n_X11_burn
  rw [C.x2, has0 h]
  exact sM_some rfl
theorem s_join (C : kC R M q ru) (h : M 13 4 = 0) (x : Int32) : sM (f_X11_join R M 2 x) (n_X11_join R M L 2 x) sMa := by
  unfold f_X11_join n_X11_join
  rw [C.x2, has0 h]
  exact sM_some rfl
theorem s_start (C : kC R M q ru) (h : M 13 4 = 0) (x y : Int32) : sM (f_X11_start R M 2 x y) (n_X11_start R M L 2 x y) sMa := by
  unfold f_X11_start n_X11_start
  rw [C.x2, has0 h]
  exact sM_some rfl
theorem s_wealth (C : kC R M q ru) (h : M 13 4 = 0) (x y z : Int32) : sM (f_X11_wealth R M 2 x y z) (n_X11_wealth R M L 2 x y z) sMa := by
  unfold f_X11_wealth n_X11_wealth
  rw [C.x2, has0 h]
  exact sM_some rfl
theorem s_free (C : kC R M q ru) (h : M 13 4 = 0) (x y : Int32) : sM (f_X11_free R M 2 x y) (n_X11_free R M L 2 x y) sMa := by
  unfold f_X11_free n_X11_free
  rw [C.x2, has0 h]
  exact sM_some rfl
theorem s_best (C : kC R M q ru) (h : M 13 4 = 0) (x y z w : Int32) : sM (f_X11_best R M 2 x y z w) (n_X11_best R M L 2 x y z w) sMa := by
  unfold f_X11_best n_X11_best
  rw [C.x2, has0 h]
  exact sM_some rfl
theorem s_loan (C : kC R M q ru) (h : M 13 4 = 0) (x y z w : Int32) : sM (f_X11_loan R M 2 x y z w) (n_X11_loan R M L 2 x y z w) sMa := by
  unfold f_X11_loan n_X11_loan
  rw [C.x2, has0 h]
  exact sM_some rfl
theorem s_span (C : kC R M q ru) (h : M 13 4 = 0) (x y z : Int32) : sM (f_X11_span R M 2 x y z) (n_X11_span R M L 2 x y z) sMa := by
  unfold f_X11_span n_X11_span
  rw [C.x2, C.x7]
  refine sM_s fun b _ => sM_if (fun _ => sM_some rfl) (fun _ => sM_if (fun _ => sM_some rfl) (fun _ => sM_if (fun _ => sM_some rfl) (fun _ => ?_)))
  rw [has0 h]
  exact sM_some rfl
theorem s_undo (C : kC R M q ru) (h : M 18 4 = 0) : sM (f_X11_undo R M 2) (n_X11_undo R M L 2) sMa := by
  unfold f_X11_undo n_X11_undo f_X2_takeBack n_X2_takeBack
  rw [C.x3, h, if_neg (by decide), if_neg (by decide)]
  exact sM_ck (sM_some rfl)
theorem s_restore (C : kC R M q ru) (h : ∀ j, M 21 j = 0) (x : Int32) : sM (f_X11_restore R M 2 x) (n_X11_restore R M L 2 x) sMa := by
  unfold f_X11_restore n_X11_restore f_X2_bringBack n_X2_bringBack
  rw [C.x3]
  have e : ∀ b, f_X2_isHeld R M 18 x = some b → b = 0 := fun b e => by
    unfold f_X2_isHeld at e
    by_cases c : x < 0
    · rw [if_pos c] at e
      cases e
      rfl
    · rw [if_neg c] at e
      by_cases c2 : (3 : Int32) ≤ x
      · rw [if_pos c2] at e
        cases e
        rfl
      · rw [if_neg c2] at e
        obtain ⟨-, e⟩ := zck_e e
        rw [C.kr.2.2.1, if_pos (h _)] at e
        cases e
        rfl
  refine sM_23 (P := fun a b => a.1 = 0 ∧ b.1 = 0) ?_ (fun a b e => by rw [e.1, e.2, if_pos rfl, if_pos rfl]; exact sM_some rfl)
  refine sM_s fun b hb => ?_
  rw [if_pos (e b hb), if_pos (e b hb)]
  exact sM_some ⟨rfl, rfl⟩
theorem s_hold (C : kC R M q ru) (h : M 13 4 = 0) (x : Int32) : sM (f_X11_hold R M 2 x) (n_X11_hold R M L 2 x) sMa := by
  unfold f_X11_hold n_X11_hold f_X2_holdIn n_X2_holdIn
  rw [C.x2, C.x3]
  refine sM_23 (P := sMa) ?_ (fun a b e => by
    have e : a.1 = b.1 := e
    rw [e]
    exact sM_ck (sM_some rfl))
  refine sM_if (fun _ => sM_some rfl) (fun _ => sM_if (fun _ => sM_some rfl) (fun _ => sM_ck (sM_ck (sM_b12 (s_copy h) ?_))))
  rintro M2 _ ⟨rfl, _, _⟩
  exact sM_ck (sM_lt fun M3 e3 => sM_some rfl)
end SIM

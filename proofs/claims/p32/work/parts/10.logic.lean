/-! LOGIC: what a decompiled function gives, said forwards -/
abbrev zT {α : Type} (x : Option α) (Q : α → Prop) : Prop := ∃ a, x = some a ∧ Q a
theorem zT_some {α : Type} {a : α} {Q : α → Prop} (h : Q a) : zT (some a) Q := ⟨a, rfl, h⟩
theorem zT_w {α : Type} {x : Option α} {Q Q1 : α → Prop} (h : zT x Q) (hq : ∀ a, Q a → Q1 a) : zT x Q1 := by
  obtain ⟨a, e, q⟩ := h
  exact ⟨a, e, hq a q⟩
theorem zT_ck {α : Type} {b : Bool} {x : Option α} {Q : α → Prop} (hb : b = true) (h : zT x Q) : zT (zck b x) Q := by
  unfold zck
  rw [if_pos hb]
  exact h
theorem zT_lt {α β : Type} {a : α} {f : α → Option β} {Q : β → Prop} (h : zT (f a) Q) : zT (zlt a f) Q := h
theorem zT_bd {α β : Type} {x : Option α} {f : α → Option β} {Q : β → Prop} (h : zT x (fun a => zT (f a) Q)) : zT (zbd x f) Q := by
  obtain ⟨a, e, q⟩ := h
  rw [e]
  exact q
theorem zT_bd2 {α γ β : Type} {x : Option (α × γ)} {f : α → γ → Option β} {Q : β → Prop} (h : zT x (fun p => zT (f p.1 p.2) Q)) : zT (zbd2 x f) Q := by
  obtain ⟨a, e, q⟩ := h
  rw [e]
  exact q
theorem zT_bd3 {α γ δ β : Type} {x : Option (α × γ × δ)} {f : α → γ → δ → Option β} {Q : β → Prop} (h : zT x (fun p => zT (f p.1 p.2.1 p.2.2) Q)) : zT (zbd3 x f) Q := by
  obtain ⟨a, e, q⟩ := h
  rw [e]
  exact q
theorem zT_if {α : Type} {c : Prop} {inst : Decidable c} {a b : Option α} {Q : α → Prop} (h1 : c → zT a Q) (h2 : ¬ c → zT b Q) : zT (if c then a else b) Q := by
  by_cases hc : c
  · rw [if_pos hc]
    exact h1 hc
  · rw [if_neg hc]
    exact h2 hc
theorem zT_if1 {α : Type} {c : Prop} {inst : Decidable c} {a b : Option α} {Q : α → Prop} (hc : c) (h1 : zT a Q) : zT (if c then a else b) Q := by
  rw [if_pos hc]
  exact h1
theorem zT_if0 {α : Type} {c : Prop} {inst : Decidable c} {a b : Option α} {Q : α → Prop} (hc : ¬ c) (h1 : zT b Q) : zT (if c then a else b) Q := by
  rw [if_neg hc]
  exact h1
theorem zT_eq {α : Type} {x : Option α} {a : α} {Q : α → Prop} (h : x = some a) (q : Q a) : zT x Q := ⟨a, h, q⟩
/-- a loop: a measure falls, or it ends -/
theorem zT_loopN {V E : Type} {b : V → Option (V ⊕ E)} {I : Nat → V → Prop} {Q : E → Prop} (hs : ∀ k v, I k v → zT (b v) (Sum.elim (fun v1 => ∃ k1, k1 < k ∧ I k1 v1) Q)) : ∀ (n k : Nat) (v : V), I k v → k < n → zT (zloop n b v) Q := by
  intro n
  induction n with
  | zero => intro k v _ h; omega
  | succ n ih =>
    intro k v hI hk
    obtain ⟨x, e, q⟩ := hs k v hI
    unfold zloop
    rw [e]
    cases x with
    | inl v1 =>
      obtain ⟨k1, h1, h2⟩ := q
      exact ih k1 v1 h2 (by omega)
    | inr e1 => exact ⟨e1, rfl, q⟩
theorem zT_loop {V E : Type} {b : V → Option (V ⊕ E)} (I : Nat → V → Prop) {Q : E → Prop} (k : Nat) {v : V} (h0 : I k v) (hk : k < 1000000) (hs : ∀ k v, I k v → zT (b v) (Sum.elim (fun v1 => ∃ k1, k1 < k ∧ I k1 v1) Q)) : zT (zloop zN b v) Q := zT_loopN hs _ k v h0 hk
/-- a counted loop: at k < n it goes on, at n it ends; or it ends earlier -/
theorem zT_for {V E : Type} {b : V → Option (V ⊕ E)} (n : Nat) (I : Nat → V → Prop) {Q : E → Prop} {v : V} (h0 : I 0 v) (hn : n < 999999) (hs : ∀ k v, k < n → I k v → zT (b v) (Sum.elim (fun v1 => I (k + 1) v1) Q)) (he : ∀ v, I n v → zT (b v) (Sum.elim (fun _ => False) Q)) : zT (zloop zN b v) Q := by
  refine zT_loop (fun m v => ∃ k, k ≤ n ∧ m = n - k ∧ I k v) n ⟨0, Nat.zero_le _, rfl, h0⟩ (by omega) ?_
  rintro m v ⟨k, hk, rfl, hI⟩
  by_cases hkn : k = n
  · subst hkn
    refine zT_w (he v hI) ?_
    rintro (x | x) q
    · exact q.elim
    · exact q
  · refine zT_w (hs k v (by omega) hI) ?_
    rintro (x | x) q
    · exact ⟨n - (k + 1), by omega, k + 1, by omega, rfl, q⟩
    · exact q
theorem ztn_nI {k : Nat} (h : k < 2147483648) : ztn (nI k) = k := nI_clamp h
theorem zin_nI {k n : Nat} (h : k < n) (hn : n < 2147483648) : zin (nI k) n = true := by
  unfold zin
  rw [Bool.and_eq_true, decide_eq_true_eq, decide_eq_true_eq]
  exact ⟨nI_pos' (by omega), by rw [nI_clamp (by omega)]; exact h⟩
theorem nI_lit (k : Nat) : (OfNat.ofNat k : Int32) = nI k := rfl
theorem nI_dec {k : Nat} (h : 0 < k) : nI k + (-1) = nI (k - 1) := by
  obtain ⟨j, rfl⟩ : ∃ j, k = j + 1 := ⟨k - 1, by omega⟩
  rw [Nat.add_sub_cancel, nI_succ, Int32.add_assoc]
  have : (1 : Int32) + (-1) = 0 := by decide
  rw [this, Int32.add_zero]
/-- an int is a small number, or it isn't -/
theorem nI_cases (x : Int32) (n : Nat) (hn : n < 2147483648) : (∃ k, k < n ∧ x = nI k) ∨ (x < 0 ∨ nI n ≤ x) := by
  by_cases h0 : x < 0
  · exact Or.inr (Or.inl h0)
  · obtain ⟨j, hj, rfl⟩ := nI_of h0
    by_cases h : j < n
    · exact Or.inl ⟨j, h, rfl⟩
    · exact Or.inr (Or.inr (nI_le (by omega) hj))
/-- writes -/
theorem zup_same {M : zM} {a k : Nat} {v : Int32} : zup M a k v a k = v := by simp [zup]
theorem zup_k {M : zM} {a k j : Nat} {v : Int32} (h : j ≠ k) : zup M a k v a j = M a j := by simp [zup, h]
theorem zup_a {M : zM} {a b k j : Nat} {v : Int32} (h : b ≠ a) : zup M a k v b j = M b j := by simp [zup, h]
theorem upd_s {f : Nat → Int32} {k : Nat} {x : Int32} : upd f k x k = x := by simp [upd]
theorem upd_n {f : Nat → Int32} {k j : Nat} {x : Int32} (h : j ≠ k) : upd f k x j = f j := by simp [upd, h]
/-- the memory is as it was but at the cells in A -/
def zag (A : Nat → Nat → Prop) (M M1 : zM) : Prop := ∀ a k, ¬ A a k → M1 a k = M a k
theorem zag.rf {A : Nat → Nat → Prop} {M : zM} : zag A M M := fun _ _ _ => rfl
theorem zag.tr {A : Nat → Nat → Prop} {M M1 M2 : zM} (h : zag A M M1) (h2 : zag A M1 M2) : zag A M M2 := fun a k ha => (h2 a k ha).trans (h a k ha)
theorem zag.up {A : Nat → Nat → Prop} {M M1 : zM} {a k : Nat} {v : Int32} (h : zag A M M1) (ha : A a k) : zag A M (zup M1 a k v) := fun b j hb => by
  unfold zup
  by_cases e : b = a
  · by_cases e2 : j = k
    · exact absurd (e ▸ e2 ▸ ha) hb
    · rw [if_pos e, if_neg e2]
      exact h b j hb
  · rw [if_neg e]
    exact h b j hb
theorem zag.mo {A B : Nat → Nat → Prop} {M M1 : zM} (h : zag A M M1) (hab : ∀ a k, A a k → B a k) : zag B M M1 := fun a k ha => h a k (fun q => ha (hab a k q))
/-- THE RING OBJECT r as a row of 60 -/
def RW (M : zM) (r n : Nat) (w : Nat → Int32) : Prop := n ≤ 10 ∧ M r 4 = nI n ∧ w 40 = nI n ∧ M r 5 = w 41 ∧ M r 6 = w 42 ∧ M r 7 = w 43 ∧ ∀ h, h < n → M (r + 1) h = w h ∧ M (r + 2) h = w (10 + h) ∧ M (r + 3) h = w (20 + h) ∧ M (r + 4) h = w (30 + h)
def zrg (R : zR) (r : Nat) : Prop := R r 0 = r + 1 ∧ R r 1 = r + 2 ∧ R r 2 = r + 3 ∧ R r 3 = r + 4
def zblk (r : Nat) : Nat → Nat → Prop := fun a _ => r ≤ a ∧ a < r + 5
theorem RW.eq {A : Nat → Nat → Prop} {M M1 : zM} {r n : Nat} {w : Nat → Int32} (h : RW M r n w) (hg : zag A M M1) (he : ∀ a k, r ≤ a → a < r + 5 → ¬ A a k) : RW M1 r n w := by
  obtain ⟨h1, h2, h3, h4, h5, h6, h7⟩ := h
  have g : ∀ a k, r ≤ a → a < r + 5 → M1 a k = M a k := fun a k q1 q2 => hg a k (he a k q1 q2)
  refine ⟨h1, by rw [g r 4 (by omega) (by omega)]; exact h2, h3, by rw [g r 5 (by omega) (by omega)]; exact h4, by rw [g r 6 (by omega) (by omega)]; exact h5, by rw [g r 7 (by omega) (by omega)]; exact h6, fun h hh => ?_⟩
  rw [g (r + 1) h (by omega) (by omega), g (r + 2) h (by omega) (by omega), g (r + 3) h (by omega) (by omega), g (r + 4) h (by omega) (by omega)]
  exact h7 h hh
/-! class side: the methods of Ring -/
theorem hz_yes {M : zM} {r n : Nat} {w : Nat → Int32} (h : RW M r n w) {k : Nat} (hk : k < n) : f_X6_has M r (nI k) = some 1 := by
  obtain ⟨h1, h2, -⟩ := h
  unfold f_X6_has
  rw [if_neg (nI_pos (by omega)), h2, if_neg (nI_ge hk (by omega)), nI_lit 10, if_neg (nI_ge (by omega) (by omega))]
theorem hz_no {M : zM} {r n : Nat} {w : Nat → Int32} (h : RW M r n w) {x : Int32} (hx : x < 0 ∨ nI n ≤ x) : f_X6_has M r x = some 0 := by
  obtain ⟨h1, h2, -⟩ := h
  unfold f_X6_has
  by_cases h0 : x < 0
  · rw [if_pos h0]
  · rw [if_neg h0, h2, if_pos (hx.resolve_left h0)]
theorem hz_end {M : zM} {r n : Nat} {w : Nat → Int32} (h : RW M r n w) : f_X6_has M r (nI n) = some 0 := hz_no h (Or.inr (nI_le (Nat.le_refl _) (by have := h.1; omega)))
/-- the row's operations -/
def shF (w : Nat → Int32) (h : Nat) : Int32 := w h - w (10 + h)
def payF (w : Nat → Int32) (h : Nat) (x : Int32) : Nat → Int32 := upd (upd (upd (upd w h (w h - x)) 41 (w 41 + x)) (20 + h) x) (30 + h) (w (30 + h) + x)
theorem X6_shown {M : zM} {R : zR} {r n : Nat} {w : Nat → Int32} (hR : zrg R r) (h : RW M r n w) {k : Nat} (hk : k < n) : f_X6_shown R M r (nI k) = some (shF w k) := by
  obtain ⟨h1, h2, h3, h4, h5, h6, h7⟩ := h
  obtain ⟨e1, e2, -⟩ := h7 k hk
  unfold f_X6_shown
  rw [if_neg (nI_pos (by omega)), h2, if_neg (nI_ge hk (by omega)), nI_lit 10, if_pos (nI_lt (by omega) (by omega))]
  unfold zck
  rw [if_pos (zin_nI (by omega) (by omega)), if_pos (zin_nI (by omega) (by omega)), ztn_nI (by omega), hR.1, hR.2.1, e1, e2]
  rfl
theorem X6_pay {M : zM} {R : zR} {r n : Nat} {w : Nat → Int32} (hR : zrg R r) (h : RW M r n w) {k : Nat} (hk : k < n) (x : Int32) : zT (f_X6_pay R M r (nI k) x) (fun M1 => RW M1 r n (payF w k x) ∧ zag (zblk r) M M1) := by
  obtain ⟨h1, h2, h3, h4, h5, h6, h7⟩ := id h
  unfold f_X6_pay
  refine zT_bd (zT_eq (hz_yes h hk) ?_)
  refine zT_if0 (by decide) ?_
  have hz := zin_nI (k := k) (n := 10) (by omega) (by omega)
  refine zT_ck hz (zT_ck hz (zT_lt (zT_lt (zT_ck hz (zT_lt (zT_ck hz (zT_ck hz (zT_lt (zT_some ?_)))))))))
  rw [ztn_nI (by omega), hR.1, hR.2.2.1, hR.2.2.2]
  refine ⟨⟨h1, ?_, ?_, ?_, ?_, ?_, ?_⟩, ?_⟩
  · simp (disch := omega) only [zup_same, zup_k, zup_a, h2]
  · simp (disch := omega) only [payF, upd_s, upd_n, h3]
  · simp (disch := omega) only [zup_same, zup_k, zup_a, payF, upd_s, upd_n, h4]
  · simp (disch := omega) only [zup_same, zup_k, zup_a, payF, upd_s, upd_n, h5]
  · simp (disch := omega) only [zup_same, zup_k, zup_a, payF, upd_s, upd_n, h6]
  · intro h hh
    obtain ⟨g1, g2, g3, g4⟩ := h7 h hh
    by_cases e : h = k
    · subst e
      simp (disch := omega) only [zup_same, zup_k, zup_a, payF, upd_s, upd_n, g1, g2, g3, g4, and_self]
    · simp (disch := omega) only [zup_same, zup_k, zup_a, payF, upd_s, upd_n, g1, g2, g3, g4, and_self]
  · exact ((((zag.rf.up ⟨by omega, by omega⟩).up ⟨by omega, by omega⟩).up ⟨by omega, by omega⟩).up ⟨by omega, by omega⟩)
/-- the loops of this class: for k < n while it has k -/
theorem X6_earn {M : zM} {R : zR} {r n : Nat} {w : Nat → Int32} (hR : zrg R r) (h : RW M r n w) {k : Nat} (hk : k < n) (x : Int32) : zT (f_X6_earn R M r (nI k) x) (fun M1 => RW M1 r n (upd w k (w k + x)) ∧ zag (zblk r) M M1) := by
  obtain ⟨h1, h2, h3, h4, h5, h6, h7⟩ := id h
  unfold f_X6_earn
  refine zT_bd (zT_eq (hz_yes h hk) ?_)
  refine zT_if0 (by decide) ?_
  have hz := zin_nI (k := k) (n := 10) (by omega) (by omega)
  refine zT_ck hz (zT_ck hz (zT_lt (zT_some ?_)))
  rw [ztn_nI (by omega), hR.1]
  refine ⟨⟨h1, ?_, ?_, ?_, ?_, ?_, ?_⟩, ?_⟩
  · simp (disch := omega) only [zup_same, zup_k, zup_a, h2]
  · simp (disch := omega) only [upd_s, upd_n, h3]
  · simp (disch := omega) only [zup_same, zup_k, zup_a, upd_s, upd_n, h4]
  · simp (disch := omega) only [zup_same, zup_k, zup_a, upd_s, upd_n, h5]
  · simp (disch := omega) only [zup_same, zup_k, zup_a, upd_s, upd_n, h6]
  · intro h hh
    obtain ⟨g1, g2, g3, g4⟩ := h7 h hh
    by_cases e : h = k
    · subst e
      simp (disch := omega) only [zup_same, zup_k, zup_a, upd_s, upd_n, g1, g2, g3, g4, and_self]
    · simp (disch := omega) only [zup_same, zup_k, zup_a, upd_s, upd_n, g1, g2, g3, g4, and_self]
  · exact zag.rf.up ⟨by omega, by omega⟩
theorem X6_purseOf {M : zM} {R : zR} {r n : Nat} {w : Nat → Int32} (hR : zrg R r) (h : RW M r n w) {k : Nat} (hk : k < n) : f_X6_purseOf R M r (nI k) = some (w k) := by
  unfold f_X6_purseOf
  rw [hz_yes h hk]
  obtain ⟨h1, h2, h3, h4, h5, h6, h7⟩ := h
  unfold zbd zck
  simp only
  rw [if_neg (by decide), if_pos (zin_nI (by omega) (by omega)), ztn_nI (by omega), hR.1, (h7 k hk).1]
theorem X6_paidBy {M : zM} {R : zR} {r n : Nat} {w : Nat → Int32} (hR : zrg R r) (h : RW M r n w) {k : Nat} (hk : k < n) : f_X6_paidBy R M r (nI k) = some (w (20 + k)) := by
  unfold f_X6_paidBy
  rw [hz_yes h hk]
  obtain ⟨h1, h2, h3, h4, h5, h6, h7⟩ := h
  unfold zbd zck
  simp only
  rw [if_neg (by decide), if_pos (zin_nI (by omega) (by omega)), ztn_nI (by omega), hR.2.2.1, (h7 k hk).2.2.1]
def moveF (w : Nat → Int32) (h o : Nat) (x : Int32) : Nat → Int32 := upd (upd w h (w h - x)) o ((upd w h (w h - x)) o + x)
theorem X6_move {M : zM} {R : zR} {r n : Nat} {w : Nat → Int32} (hR : zrg R r) (h : RW M r n w) {k o : Nat} (hk : k < n) (ho : o < n) (x : Int32) : zT (f_X6_move R M r (nI k) (nI o) x) (fun M1 => RW M1 r n (moveF w k o x) ∧ zag (zblk r) M M1) := by
  obtain ⟨h1, h2, h3, h4, h5, h6, h7⟩ := id h
  unfold f_X6_move
  refine zT_bd (zT_eq (hz_yes h hk) (zT_if0 (by decide) (zT_bd (zT_eq (hz_yes h ho) (zT_if0 (by decide) ?_)))))
  have hz := zin_nI (k := k) (n := 10) (by omega) (by omega)
  have hz2 := zin_nI (k := o) (n := 10) (by omega) (by omega)
  refine zT_ck hz (zT_ck hz (zT_lt (zT_ck hz2 (zT_ck hz2 (zT_lt (zT_some ?_))))))
  rw [ztn_nI (by omega), ztn_nI (by omega), hR.1]
  obtain ⟨f1, -⟩ := h7 k hk
  obtain ⟨f2, -⟩ := h7 o ho
  refine ⟨⟨h1, ?_, ?_, ?_, ?_, ?_, ?_⟩, ?_⟩
  · simp (disch := omega) only [zup_same, zup_k, zup_a, h2]
  · simp (disch := omega) only [moveF, upd_s, upd_n, h3]
  · simp (disch := omega) only [zup_same, zup_k, zup_a, moveF, upd_s, upd_n, h4]
  · simp (disch := omega) only [zup_same, zup_k, zup_a, moveF, upd_s, upd_n, h5]
  · simp (disch := omega) only [zup_same, zup_k, zup_a, moveF, upd_s, upd_n, h6]
  · intro h hh
    obtain ⟨g1, g2, g3, g4⟩ := h7 h hh
    by_cases e : h = o
    · subst e
      by_cases e2 : h = k
      · subst e2
        simp (disch := omega) only [zup_same, zup_k, zup_a, moveF, upd_s, upd_n, g1, g2, g3, g4, and_self]
      · simp (disch := omega) only [zup_same, zup_k, zup_a, moveF, upd_s, upd_n, g1, g2, g3, g4, and_self]
    · by_cases e2 : h = k
      · subst e2
        simp (disch := omega) only [zup_same, zup_k, zup_a, moveF, upd_s, upd_n, g1, g2, g3, g4, and_self]
      · simp (disch := omega) only [zup_same, zup_k, zup_a, moveF, upd_s, upd_n, g1, g2, g3, g4, and_self]
  · exact (zag.rf.up ⟨by omega, by omega⟩).up ⟨by omega, by omega⟩
/-- copy: the other ring's row -/
theorem X6_copy {M : zM} {R : zR} {r q n : Nat} {w : Nat → Int32} (hR : zrg R r) (hQ : zrg R q) (h : RW M q n w) (hd : r + 5 ≤ q ∨ q + 5 ≤ r) : zT (f_X6_copy R M r q) (fun M1 => RW M1 r n w ∧ zag (zblk r) M M1) := by
  obtain ⟨h1, h2, h3, h4, h5, h6, h7⟩ := id h
  unfold f_X6_copy
  refine zT_lt (zT_lt (zT_lt (zT_lt (zT_bd ?_))))
  simp (disch := omega) only [zup_same, zup_k, zup_a]
  refine zT_for n (fun k v => v.1 = nI k ∧ zag (zblk r) M v.2 ∧ v.2 r 4 = nI n ∧ v.2 r 5 = w 41 ∧ v.2 r 6 = w 42 ∧ v.2 r 7 = w 43 ∧ ∀ j, j < k → v.2 (r + 1) j = w j ∧ v.2 (r + 2) j = w (10 + j) ∧ v.2 (r + 3) j = w (20 + j) ∧ v.2 (r + 4) j = w (30 + j)) ⟨rfl, (((zag.rf.up ⟨by omega, by omega⟩).up ⟨by omega, by omega⟩).up ⟨by omega, by omega⟩).up ⟨by omega, by omega⟩, ?_, ?_, ?_, ?_, fun j hj => absurd hj (by omega)⟩ (by omega) ?_ ?_
  · simp (disch := omega) only [zup_same, zup_k, zup_a, h2]
  · simp (disch := omega) only [zup_same, zup_k, zup_a, h4]
  · simp (disch := omega) only [zup_same, zup_k, zup_a, h5]
  · simp (disch := omega) only [zup_same, zup_k, zup_a, h6]
  · rintro k ⟨x, M1⟩ hk ⟨rfl, hag, e4, e5, e6, e7, ej⟩
    simp only at hag e4 e5 e6 e7 ej ⊢
    unfold b_X6_copy_34
    rw [e4]
    refine zT_if0 (nI_ge hk (by omega)) (zT_if0 (by rw [nI_lit 10]; exact nI_ge (by omega) (by omega)) ?_)
    have hz := zin_nI (k := k) (n := 10) (by omega) (by omega)
    refine zT_ck hz (zT_ck hz (zT_lt (zT_ck hz (zT_ck hz (zT_lt (zT_ck hz (zT_ck hz (zT_lt (zT_ck hz (zT_ck hz (zT_lt (zT_some ?_)))))))))))) 
    rw [ztn_nI (by omega), hR.1, hR.2.1, hR.2.2.1, hR.2.2.2, hQ.1, hQ.2.1, hQ.2.2.1, hQ.2.2.2]
    show _ ∧ _
    obtain ⟨g1, g2, g3, g4⟩ := h7 k hk
    have c1 : M1 (q + 1) k = w k := by rw [hag _ _ (by unfold zblk; omega)]; exact g1
    have c2 : M1 (q + 2) k = w (10 + k) := by rw [hag _ _ (by unfold zblk; omega)]; exact g2
    have c3 : M1 (q + 3) k = w (20 + k) := by rw [hag _ _ (by unfold zblk; omega)]; exact g3
    have c4 : M1 (q + 4) k = w (30 + k) := by rw [hag _ _ (by unfold zblk; omega)]; exact g4
    simp (disch := omega) only [zup_same, zup_k, zup_a, c1, c2, c3, c4]
    refine ⟨(nI_succ k).symm, (((hag.up ⟨by omega, by omega⟩).up ⟨by omega, by omega⟩).up ⟨by omega, by omega⟩).up ⟨by omega, by omega⟩, e4, e5, e6, e7, fun j hj => ?_⟩
    by_cases e : j = k
    · subst e
      simp (disch := omega) only [zup_same, zup_k, zup_a, and_self]
    · obtain ⟨f1, f2, f3, f4⟩ := ej j (by omega)
      simp (disch := omega) only [zup_same, zup_k, zup_a, f1, f2, f3, f4, and_self]
  · rintro ⟨x, M1⟩ ⟨rfl, hag, e4, e5, e6, e7, ej⟩
    simp only at hag e4 e5 e6 e7 ej ⊢
    unfold b_X6_copy_34
    rw [e4]
    refine zT_if1 (nI_le (Nat.le_refl _) (by omega)) (zT_some ?_)
    exact zT_some ⟨⟨h1, e4, h3, e5, e6, e7, ej⟩, hag⟩
theorem hz_k {M : zM} {r n : Nat} (h1 : n ≤ 10) (h2 : M r 4 = nI n) {k : Nat} (hk : k < n) : f_X6_has M r (nI k) = some 1 := by
  unfold f_X6_has
  rw [if_neg (nI_pos (by omega)), h2, if_neg (nI_ge hk (by omega)), nI_lit 10, if_neg (nI_ge (by omega) (by omega))]
theorem hz_n {M : zM} {r n : Nat} (h1 : n ≤ 10) (h2 : M r 4 = nI n) : f_X6_has M r (nI n) = some 0 := by
  unfold f_X6_has
  rw [if_neg (nI_pos (by omega)), h2, if_pos (nI_le (Nat.le_refl _) (by omega))]
def zero30 (w : Nat → Int32) : Nat → Int32 := fun k => if 30 ≤ k ∧ k < 40 then 0 else w k
def addF (n : Nat) (x : Int32) (w : Nat → Int32) : Nat → Int32 := fun k => if k < n then w k + x else w k
def mostF (w : Nat → Int32) : Nat → Nat
  | 0 => 0
  | k + 1 => if w (30 + (k + 1)) ≤ w (30 + mostF w k) then mostF w k else k + 1
theorem mostF_le (w : Nat → Int32) : ∀ k, mostF w k ≤ k
  | 0 => Nat.le_refl _
  | k + 1 => by
    unfold mostF
    have := mostF_le w k
    split <;> omega
def toF (n : Nat) (how : Int32) (w : Nat → Int32) : Nat := if how = 1 then mostF w (n - 1) else (w 43 - w 43 / w 40 * w 40).toNatClampNeg
def sharesF (n : Nat) (how : Int32) (w : Nat → Int32) : Nat → Int32 :=
  if n = 0 then w else
  if how = 0 then upd (zero30 (upd (addF n (w 41 / w 40) w) 41 (w 41 - w 41 / w 40 * w 40))) 43 (w 43 + 1)
  else upd (zero30 (upd (upd w (toF n how w) (w (toF n how w) + w 41)) 41 0)) 43 (w 43 + 1)
theorem X6_mostPaying {M : zM} {R : zR} {r n : Nat} {w : Nat → Int32} (hR : zrg R r) (h : RW M r n w) (hn : 0 < n) : f_X6_mostPaying R M r = some (nI (mostF w (n - 1))) := by
  obtain ⟨h1, h2, h3, h4, h5, h6, h7⟩ := id h
  have key : zT (f_X6_mostPaying R M r) (fun x => x = nI (mostF w (n - 1))) := by
    unfold f_X6_mostPaying
    refine zT_bd ?_
    refine zT_for (n - 1) (fun k v => v.2 = nI (k + 1) ∧ v.1 = nI (mostF w k)) ⟨rfl, rfl⟩ (by omega) ?_ ?_
    · rintro k ⟨x, y⟩ hk ⟨rfl, rfl⟩
      unfold b_X6_mostPaying_4
      simp only
      refine zT_if0 (by rw [nI_lit 10]; exact nI_ge (by omega) (by omega)) (zT_bd (zT_eq (hz_yes h (by omega)) (zT_if0 (by decide) ?_)))
      have hm := mostF_le w k
      refine zT_ck (zin_nI (by omega) (by omega)) (zT_ck (zin_nI (by omega) (by omega)) ?_)
      rw [ztn_nI (by omega), ztn_nI (by omega), hR.2.2.2, (h7 (k + 1) (by omega)).2.2.2, (h7 (mostF w k) (by omega)).2.2.2]
      refine zT_if (fun hc => zT_some ?_) (fun hc => zT_some ?_)
      · refine ⟨(nI_succ (k + 1)).symm, ?_⟩
        simp only [mostF]
        rw [if_pos hc]
      · refine ⟨(nI_succ (k + 1)).symm, ?_⟩
        simp only [mostF]
        rw [if_neg hc]
    · rintro ⟨x, y⟩ ⟨rfl, rfl⟩
      unfold b_X6_mostPaying_4
      simp only
      rw [show n - 1 + 1 = n by omega]
      refine zT_if (fun _ => zT_some (zT_some rfl)) (fun _ => zT_bd (zT_eq (hz_end h) (zT_if1 rfl (zT_some (zT_some rfl)))))
  obtain ⟨x, e, rfl⟩ := key
  exact e
/-- the loop that sets since to 0 -/
theorem X6_zero {M : zM} {R : zR} {r n : Nat} {w : Nat → Int32} (hR : zrg R r) (h : RW M r n w) : zT (zloop zN (fun v => b_X6_sharePot_108 R v.2 r v.1) ((0 : Int32), M)) (fun M1 => RW M1 r n (zero30 w) ∧ zag (zblk r) M M1) := by
  obtain ⟨h1, h2, h3, h4, h5, h6, h7⟩ := id h
  refine zT_for n (fun k v => v.1 = nI k ∧ zag (fun a _ => a = r + 4) M v.2 ∧ ∀ j, j < n → v.2 (r + 4) j = if j < k then 0 else w (30 + j)) ⟨rfl, zag.rf, fun j hj => by rw [if_neg (by omega)]; exact (h7 j hj).2.2.2⟩ (by omega) ?_ ?_
  · rintro k ⟨x, M1⟩ hk ⟨rfl, hag, ej⟩
    simp only at hag ej ⊢
    unfold b_X6_sharePot_108
    have e4 : M1 r 4 = nI n := by rw [hag _ _ (by omega)]; exact h2
    refine zT_if0 (by rw [nI_lit 10]; exact nI_ge (by omega) (by omega)) (zT_bd (zT_eq (hz_k h1 e4 hk) (zT_if0 (by decide) ?_)))
    refine zT_ck (zin_nI (by omega) (by omega)) (zT_lt (zT_some ?_))
    rw [ztn_nI (by omega), hR.2.2.2]
    refine ⟨(nI_succ k).symm, hag.up rfl, fun j hj => ?_⟩
    by_cases e : j = k
    · subst e
      rw [if_pos (by omega)]
      exact zup_same
    · simp (disch := omega) only [zup_k]
      rw [ej j hj]
      by_cases e2 : j < k
      · rw [if_pos e2, if_pos (by omega)]
      · rw [if_neg e2, if_neg (by omega)]
  · rintro ⟨x, M1⟩ ⟨rfl, hag, ej⟩
    simp only at hag ej ⊢
    unfold b_X6_sharePot_108
    have e4 : M1 r 4 = nI n := by rw [hag _ _ (by omega)]; exact h2
    have fin : RW M1 r n (zero30 w) ∧ zag (zblk r) M M1 := by
      refine ⟨⟨h1, e4, by rw [← h3]; rfl, ?_, ?_, ?_, fun j hj => ?_⟩, hag.mo (fun a k q => by unfold zblk; omega)⟩
      · rw [hag _ _ (by omega), h4]; rfl
      · rw [hag _ _ (by omega), h5]; rfl
      · rw [hag _ _ (by omega), h6]; rfl
      · obtain ⟨g1, g2, g3, g4⟩ := h7 j hj
        rw [hag _ _ (by omega), hag _ _ (by omega), hag _ _ (by omega), ej j hj, if_pos hj, g1, g2, g3]
        refine ⟨?_, ?_, ?_, ?_⟩ <;> unfold zero30
        · rw [if_neg (by omega)]
        · rw [if_neg (by omega)]
        · rw [if_neg (by omega)]
        · rw [if_pos (by omega)]
    refine zT_if (fun _ => zT_some fin) (fun _ => zT_bd (zT_eq (hz_n h1 e4) (zT_if1 rfl (zT_some fin))))
/-- RW of a row that is alike where it lives -/
theorem RW.to {M : zM} {r n : Nat} {w w1 : Nat → Int32} (h : RW M r n w) (e0 : ∀ k, 40 ≤ k → k < 44 → w1 k = w k) (e1 : ∀ p j, p < 4 → j < n → w1 (10 * p + j) = w (10 * p + j)) : RW M r n w1 := by
  obtain ⟨h1, h2, h3, h4, h5, h6, h7⟩ := h
  refine ⟨h1, h2, by rw [e0 40 (by omega) (by omega)]; exact h3, by rw [e0 41 (by omega) (by omega)]; exact h4, by rw [e0 42 (by omega) (by omega)]; exact h5, by rw [e0 43 (by omega) (by omega)]; exact h6, fun j hj => ?_⟩
  have q0 := e1 0 j (by omega) hj
  have q1 := e1 1 j (by omega) hj
  have q2 := e1 2 j (by omega) hj
  have q3 := e1 3 j (by omega) hj
  simp only [Nat.mul_zero, Nat.zero_add, Nat.mul_one] at q0 q1
  rw [q0, q1, show 20 + j = 10 * 2 + j by omega, show 30 + j = 10 * 3 + j by omega, q2, q3]
  obtain ⟨g1, g2, g3, g4⟩ := h7 j hj
  exact ⟨g1, g2, by rw [show 10 * 2 + j = 20 + j by omega]; exact g3, by rw [show 10 * 3 + j = 30 + j by omega]; exact g4⟩
/-- writes of the pot, the evening, the shares -/
theorem RW.pot {M : zM} {r n : Nat} {w : Nat → Int32} (h : RW M r n w) (x : Int32) : RW (zup M r 5 x) r n (upd w 41 x) := by
  obtain ⟨h1, h2, h3, h4, h5, h6, h7⟩ := h
  refine ⟨h1, ?_, ?_, ?_, ?_, ?_, fun j hj => ?_⟩
  · simp (disch := omega) only [zup_k, h2]
  · simp (disch := omega) only [upd_n, h3]
  · simp (disch := omega) only [zup_same, upd_s]
  · simp (disch := omega) only [zup_k, upd_n, h5]
  · simp (disch := omega) only [zup_k, upd_n, h6]
  · obtain ⟨g1, g2, g3, g4⟩ := h7 j hj
    simp (disch := omega) only [zup_a, upd_n, g1, g2, g3, g4, and_self]
theorem RW.eve {M : zM} {r n : Nat} {w : Nat → Int32} (h : RW M r n w) (x : Int32) : RW (zup M r 6 x) r n (upd w 42 x) := by
  obtain ⟨h1, h2, h3, h4, h5, h6, h7⟩ := h
  refine ⟨h1, ?_, ?_, ?_, ?_, ?_, fun j hj => ?_⟩
  · simp (disch := omega) only [zup_k, h2]
  · simp (disch := omega) only [upd_n, h3]
  · simp (disch := omega) only [zup_k, upd_n, h4]
  · simp (disch := omega) only [zup_same, upd_s]
  · simp (disch := omega) only [zup_k, upd_n, h6]
  · obtain ⟨g1, g2, g3, g4⟩ := h7 j hj
    simp (disch := omega) only [zup_a, upd_n, g1, g2, g3, g4, and_self]
theorem RW.sha {M : zM} {r n : Nat} {w : Nat → Int32} (h : RW M r n w) (x : Int32) : RW (zup M r 7 x) r n (upd w 43 x) := by
  obtain ⟨h1, h2, h3, h4, h5, h6, h7⟩ := h
  refine ⟨h1, ?_, ?_, ?_, ?_, ?_, fun j hj => ?_⟩
  · simp (disch := omega) only [zup_k, h2]
  · simp (disch := omega) only [upd_n, h3]
  · simp (disch := omega) only [zup_k, upd_n, h4]
  · simp (disch := omega) only [zup_k, upd_n, h5]
  · simp (disch := omega) only [zup_same, upd_s]
  · obtain ⟨g1, g2, g3, g4⟩ := h7 j hj
    simp (disch := omega) only [zup_a, upd_n, g1, g2, g3, g4, and_self]
theorem zblk.up {M M1 : zM} {r k : Nat} {v : Int32} (h : zag (zblk r) M M1) : zag (zblk r) M (zup M1 r k v) := h.up ⟨by omega, by omega⟩
theorem X6_sharePot {M : zM} {R : zR} {r n s : Nat} {w : Nat → Int32} (hR : zrg R r) (h : RW M r n w) (hs : w 43 = nI s) (hs2 : s < 2147483648) {how : Int32} (hh : how = 0 ∨ how = 1 ∨ how = 2) : zT (f_X6_sharePot R M r how) (fun M1 => RW M1 r n (sharesF n how w) ∧ zag (zblk r) M M1) := by
  obtain ⟨h1, h2, h3, h4, h5, h6, h7⟩ := id h
  unfold f_X6_sharePot
  rw [h2]
  by_cases hn : n = 0
  · subst hn
    refine zT_if0 (by decide) (zT_some ⟨?_, zag.rf⟩)
    simp only [sharesF, if_pos]
    exact h
  · refine zT_if1 (nI_lt (a := 0) (by omega) (by omega)) ?_
    have hne : znz (nI n) = true := by
      unfold znz
      rw [decide_eq_false (nI_ne0 (by omega) (by omega))]
      rfl
    -- behind the choice: all to one
    have one : ∀ to : Nat, to < n → to = toF n how w → how ≠ 0 → zT (j_X6_sharePot_94 R M r r (nI to)) (fun M1 => RW M1 r n (sharesF n how w) ∧ zag (zblk r) M M1) := by
      intro to hto e hne0
      unfold j_X6_sharePot_94
      refine zT_bd (zT_w (X6_earn hR h hto (M r 5)) ?_)
      rintro M1 ⟨r1, g1⟩
      refine zT_lt (zT_bd (zT_w (X6_zero hR (r1.pot 0)) ?_))
      rintro M2 ⟨r2, g2⟩
      refine zT_lt (zT_some ⟨?_, ?_⟩)
      · have e7 : M2 r 7 = w 43 := by
          have := r2.2.2.2.2.2.1
          rw [this]
          unfold zero30
          rw [if_neg (by omega)]
          simp (disch := omega) only [upd_n]
        rw [e7]
        have := r2.sha (w 43 + 1)
        unfold sharesF
        rw [if_neg hn, if_neg hne0, ← e, ← h4]
        exact this
      · exact zblk.up (g1.tr ((zblk.up zag.rf).tr g2))
    rcases hh with rfl | rfl | rfl
    · refine zT_if1 rfl (zT_ck hne (zT_bd ?_))
      rw [h4]
      have add : zT (zloop zN (fun v => b_X6_sharePot_24 R v.2 r (w 41 / nI n) v.1) ((0 : Int32), M)) (fun M1 => RW M1 r n (addF n (w 41 / nI n) w) ∧ zag (zblk r) M M1) := by
        generalize w 41 / nI n = x
        refine zT_for n (fun k v => v.1 = nI k ∧ zag (fun a _ => a = r + 1) M v.2 ∧ ∀ j, j < n → v.2 (r + 1) j = if j < k then w j + x else w j) ⟨rfl, zag.rf, fun j hj => by rw [if_neg (by omega)]; exact (h7 j hj).1⟩ (by omega) ?_ ?_
        · rintro k ⟨y, M1⟩ hk ⟨rfl, hag, ej⟩
          simp only at hag ej ⊢
          unfold b_X6_sharePot_24
          have e4 : M1 r 4 = nI n := by rw [hag _ _ (by omega)]; exact h2
          have hz := zin_nI (k := k) (n := 10) (by omega) (by omega)
          refine zT_if0 (by rw [nI_lit 10]; exact nI_ge (by omega) (by omega)) (zT_bd (zT_eq (hz_k h1 e4 hk) (zT_if0 (by decide) ?_)))
          refine zT_ck hz (zT_ck hz (zT_lt (zT_some ?_)))
          rw [ztn_nI (by omega), hR.1, ej k hk, if_neg (by omega)]
          refine ⟨(nI_succ k).symm, hag.up rfl, fun j hj => ?_⟩
          by_cases e : j = k
          · subst e
            rw [if_pos (by omega)]
            exact zup_same
          · simp (disch := omega) only [zup_k]
            rw [ej j hj]
            by_cases e2 : j < k
            · rw [if_pos e2, if_pos (by omega)]
            · rw [if_neg e2, if_neg (by omega)]
        · rintro ⟨y, M1⟩ ⟨rfl, hag, ej⟩
          simp only at hag ej ⊢
          unfold b_X6_sharePot_24
          have e4 : M1 r 4 = nI n := by rw [hag _ _ (by omega)]; exact h2
          have fin : RW M1 r n (addF n x w) ∧ zag (zblk r) M M1 := by
            refine ⟨⟨h1, e4, ?_, ?_, ?_, ?_, fun j hj => ?_⟩, hag.mo (fun a k q => by unfold zblk; omega)⟩
            · unfold addF; rw [if_neg (by omega)]; exact h3
            · unfold addF; rw [if_neg (by omega), hag _ _ (by omega)]; exact h4
            · unfold addF; rw [if_neg (by omega), hag _ _ (by omega)]; exact h5
            · unfold addF; rw [if_neg (by omega), hag _ _ (by omega)]; exact h6
            · obtain ⟨g1, g2, g3, g4⟩ := h7 j hj
              rw [hag (r + 2) j (by omega), hag (r + 3) j (by omega), hag (r + 4) j (by omega), ej j hj, if_pos hj, g2, g3, g4]
              refine ⟨?_, ?_, ?_, ?_⟩ <;> unfold addF
              · rw [if_pos hj]
              · rw [if_neg (by omega)]
              · rw [if_neg (by omega)]
              · rw [if_neg (by omega)]
          refine zT_if (fun _ => zT_some fin) (fun _ => zT_bd (zT_eq (hz_n h1 e4) (zT_if1 rfl (zT_some fin))))
      refine zT_w add ?_
      rintro M1 ⟨r1, g1⟩
      have e5 : M1 r 5 = w 41 := by rw [r1.2.2.2.1]; unfold addF; rw [if_neg (by omega)]
      have e4 : M1 r 4 = nI n := r1.2.1
      rw [e5, e4]
      refine zT_lt (zT_bd (zT_w (X6_zero hR (r1.pot (w 41 - w 41 / nI n * nI n))) ?_))
      rintro M2 ⟨r2, g2⟩
      refine zT_lt (zT_some ⟨?_, zblk.up (g1.tr ((zblk.up zag.rf).tr g2))⟩)
      have e7 : M2 r 7 = w 43 := by
        rw [r2.2.2.2.2.2.1]
        unfold zero30
        rw [if_neg (by omega)]
        simp (disch := omega) only [upd_n]
        unfold addF
        rw [if_neg (by omega)]
      rw [e7]
      unfold sharesF
      rw [if_neg hn, if_pos rfl, h3]
      exact r2.sha (w 43 + 1)
    · refine zT_if0 (by decide) (zT_if1 rfl (zT_bd (zT_eq (X6_mostPaying hR h (by omega)) ?_)))
      have := mostF_le w (n - 1)
      exact one _ (by omega) (by unfold toF; rw [if_pos rfl]) (by decide)
    · refine zT_if0 (by decide) (zT_if0 (by decide) (zT_ck hne ?_))
      rw [h6, hs, pk_rem hs2 (by omega) (by omega)]
      refine one _ (Nat.mod_lt _ (by omega)) ?_ (by decide)
      unfold toF
      rw [if_neg (by decide), hs, h3, pk_rem hs2 (by omega) (by omega), nI_clamp (Nat.lt_trans (Nat.mod_lt _ (by omega)) (by omega))]
/-- houses built, burnt, joined: rows -/
def buildF (n at_ : Nat) (purse : Int32) (w : Nat → Int32) : Nat → Int32 := fun k =>
  if k = 40 then w 40 + 1
  else if k < 40 then (if k % 10 < at_ then w k else if k % 10 = at_ then (if k < 10 then purse else 0) else if k % 10 ≤ n then w (k - 1) else w k)
  else w k
def goesF (at_ : Nat) (w : Nat → Int32) : Nat → Int32 := fun k =>
  if k = 40 then w 40 - 1
  else if k < 40 then (if k % 10 < at_ then w k else if k % 10 < 9 then w (k + 1) else 0)
  else w k
theorem buildF_at {n a : Nat} {x : Int32} {w : Nat → Int32} {p j : Nat} (hp : p < 4) (hj : j < 10) : buildF n a x w (10 * p + j) = if j < a then w (10 * p + j) else if j = a then (if p = 0 then x else 0) else if j ≤ n then w (10 * p + j - 1) else w (10 * p + j) := by
  unfold buildF
  have m : (10 * p + j) % 10 = j := by omega
  rw [if_neg (by omega), if_pos (by omega : 10 * p + j < 40), m]
  by_cases e : p = 0
  · rw [if_pos e, if_pos (by omega : 10 * p + j < 10)]
  · rw [if_neg e, if_neg (by omega : ¬ 10 * p + j < 10)]
theorem goesF_at {a : Nat} {w : Nat → Int32} {p j : Nat} (hp : p < 4) (hj : j < 10) : goesF a w (10 * p + j) = if j < a then w (10 * p + j) else if j < 9 then w (10 * p + j + 1) else 0 := by
  unfold goesF
  have m : (10 * p + j) % 10 = j := by omega
  rw [if_neg (by omega), if_pos (by omega : 10 * p + j < 40), m]
/-- the four parts of a house -/
theorem four {r j : Nat} {M : zM} {w : Nat → Int32} (h : ∀ p, p < 4 → M (r + 1 + p) j = w (10 * p + j)) : M (r + 1) j = w j ∧ M (r + 2) j = w (10 + j) ∧ M (r + 3) j = w (20 + j) ∧ M (r + 4) j = w (30 + j) := by
  have q0 := h 0 (by omega)
  have q1 := h 1 (by omega)
  have q2 := h 2 (by omega)
  have q3 := h 3 (by omega)
  simp only [Nat.mul_zero, Nat.zero_add] at q0
  exact ⟨q0, q1, q2, q3⟩
theorem RW.part {M : zM} {r n : Nat} {w : Nat → Int32} (h : RW M r n w) {p j : Nat} (hp : p < 4) (hj : j < n) : M (r + 1 + p) j = w (10 * p + j) := by
  obtain ⟨g1, g2, g3, g4⟩ := h.2.2.2.2.2.2 j hj
  rcases (show p = 0 ∨ p = 1 ∨ p = 2 ∨ p = 3 by omega) with rfl | rfl | rfl | rfl
  · simp only [Nat.mul_zero, Nat.zero_add]
    exact g1
  · exact g2
  · exact g3
  · exact g4
theorem X6_copyHouse {M : zM} {R : zR} {r i j : Nat} (hR : zrg R r) (hi : i < 10) (hj : j < 10) : zT (f_X6_copyHouse R M r (nI i) (nI j)) (fun M1 => M1 (r + 1) j = M (r + 1) i ∧ M1 (r + 2) j = M (r + 2) i ∧ M1 (r + 3) j = M (r + 3) i ∧ M1 (r + 4) j = M (r + 4) i ∧ zag (fun a k => (r + 1 ≤ a ∧ a < r + 5) ∧ k = j) M M1) := by
  unfold f_X6_copyHouse
  refine zT_if0 (nI_pos (by omega)) (zT_if0 (by rw [nI_lit 10]; exact nI_ge (by omega) (by omega)) (zT_if0 (nI_pos (by omega)) (zT_if1 (by rw [nI_lit 10]; exact nI_lt (by omega) (by omega)) ?_)))
  have hz := zin_nI (k := i) (n := 10) hi (by omega)
  have hz2 := zin_nI (k := j) (n := 10) hj (by omega)
  refine zT_ck hz (zT_ck hz2 (zT_lt (zT_ck hz (zT_ck hz2 (zT_lt (zT_ck hz (zT_ck hz2 (zT_lt (zT_ck hz (zT_ck hz2 (zT_lt (zT_some ?_))))))))))))
  rw [ztn_nI (by omega), ztn_nI (by omega), hR.1, hR.2.1, hR.2.2.1, hR.2.2.2]
  simp (disch := omega) only [zup_same, zup_a]
  exact ⟨trivial, trivial, trivial, trivial, (((zag.rf.up ⟨by omega, rfl⟩).up ⟨by omega, rfl⟩).up ⟨by omega, rfl⟩).up ⟨by omega, rfl⟩⟩
theorem X6_insert {M : zM} {R : zR} {r n : Nat} {w : Nat → Int32} (hR : zrg R r) (h : RW M r n w) {a : Nat} (ha : a ≤ n) (hn : n < 10) (x : Int32) : zT (f_X6_insert R M r (nI a) x) (fun M1 => RW M1 r (n + 1) (buildF n a x w) ∧ zag (zblk r) M M1) := by
  obtain ⟨h1, h2, h3, h4, h5, h6, h7⟩ := id h
  unfold f_X6_insert
  have hfull : f_X6_isFull M r = some 0 := by
    unfold f_X6_isFull
    rw [h2, if_pos (by rw [nI_lit 10]; exact nI_lt (by omega) (by omega))]
  rw [h2]
  refine zT_if0 (nI_pos (by omega)) (zT_if0 (nI_nlt ha (by omega)) (zT_bd (zT_eq hfull (zT_if1 rfl (zT_bd ?_)))))
  -- the shift, from above
  refine zT_loop (fun m v => ∃ k, m = k - a ∧ a ≤ k ∧ k ≤ n ∧ v.1 = nI k ∧ zag (fun b j => (r + 1 ≤ b ∧ b < r + 5) ∧ k < j) M v.2 ∧ ∀ p j, p < 4 → k < j → j ≤ n → v.2 (r + 1 + p) j = M (r + 1 + p) (j - 1)) (n - a) ⟨n, rfl, ha, Nat.le_refl _, rfl, zag.rf, fun p j _ q1 q2 => by omega⟩ (by omega) ?_
  rintro m ⟨y, M1⟩ ⟨k, rfl, k1, k2, rfl, hag, ej⟩
  simp only at hag ej ⊢
  unfold b_X6_insert_25
  by_cases hk : k = a
  · subst hk
    refine zT_if1 (nI_le (Nat.le_refl _) (by omega)) (zT_some ?_)
    show zT _ _
    have hz := zin_nI (k := k) (n := 10) (by omega) (by omega)
    refine zT_lt (zT_ck hz (zT_lt (zT_ck hz (zT_lt (zT_ck hz (zT_lt (zT_ck hz (zT_lt (zT_some ?_)))))))))
    rw [ztn_nI (by omega), hR.1, hR.2.1, hR.2.2.1, hR.2.2.2]
    have e4 : M1 r 4 = nI n := by rw [hag _ _ (by omega)]; exact h2
    have e5 : M1 r 5 = w 41 := by rw [hag _ _ (by omega)]; exact h4
    have e6 : M1 r 6 = w 42 := by rw [hag _ _ (by omega)]; exact h5
    have e7 : M1 r 7 = w 43 := by rw [hag _ _ (by omega)]; exact h6
    refine ⟨⟨by omega, ?_, ?_, ?_, ?_, ?_, fun j hj => ?_⟩, ?_⟩
    · simp (disch := omega) only [zup_same, zup_a, e4]
      exact (nI_succ n).symm
    · unfold buildF
      rw [if_pos rfl, h3]
      exact (nI_succ n).symm
    · simp (disch := omega) only [zup_same, zup_k, zup_a, e5]
      rfl
    · simp (disch := omega) only [zup_same, zup_k, zup_a, e6]
      rfl
    · simp (disch := omega) only [zup_same, zup_k, zup_a, e7]
      rfl
    · refine four fun p hp => ?_
      rw [buildF_at hp (by omega)]
      have wr : ∀ M2 : zM, M2 = zup (zup (zup (zup (zup M1 r 4 (M1 r 4 + 1)) (r + 1) k x) (r + 2) k 0) (r + 3) k 0) (r + 4) k 0 → M2 (r + 1 + p) j = if j = k then (if p = 0 then x else 0) else M1 (r + 1 + p) j := by
        rintro M2 rfl
        by_cases e : j = k
        · subst e
          rw [if_pos rfl]
          rcases (show p = 0 ∨ p = 1 ∨ p = 2 ∨ p = 3 by omega) with rfl | rfl | rfl | rfl
          · rw [if_pos rfl, show r + 1 + 0 = r + 1 from rfl]; simp (disch := omega) only [zup_same, zup_a]
          · rw [if_neg (by omega), show r + 1 + 1 = r + 2 from rfl]; simp (disch := omega) only [zup_same, zup_a]
          · rw [if_neg (by omega), show r + 1 + 2 = r + 3 from rfl]; simp (disch := omega) only [zup_same, zup_a]
          · rw [if_neg (by omega), show r + 1 + 3 = r + 4 from rfl]; simp (disch := omega) only [zup_same, zup_a]
        · rw [if_neg e]
          have u : ∀ (M0 : zM) (b v : Nat) (y : Int32), v ≠ j → zup M0 b v y (r + 1 + p) j = M0 (r + 1 + p) j := fun M0 b v y hv => by unfold zup; split <;> simp [Ne.symm hv]
          rw [u _ _ _ _ (Ne.symm e), u _ _ _ _ (Ne.symm e), u _ _ _ _ (Ne.symm e), u _ _ _ _ (Ne.symm e)]
          simp (disch := omega) only [zup_a]
      rw [wr _ rfl]
      rcases Nat.lt_trichotomy j k with q | q | q
      · rw [if_pos q, if_neg (by omega), hag _ _ (by omega)]
        exact h.part hp (by omega)
      · rw [if_pos q, if_neg (by omega : ¬ j < k), if_pos q]
      · rw [if_neg (by omega), if_neg (by omega), if_neg (by omega), if_pos (by omega), ej p j hp q (by omega), show 10 * p + j - 1 = 10 * p + (j - 1) by omega]
        exact h.part hp (by omega)
    · refine ((((zag.mo hag ?_).up ⟨by omega, by omega⟩ |>.up ⟨by omega, by omega⟩).up ⟨by omega, by omega⟩).up ⟨by omega, by omega⟩).up ⟨by omega, by omega⟩
      intro b j q
      unfold zblk
      omega
  · refine zT_if0 (nI_ge (by omega) (by omega)) ?_
    have e1 : nI k - 1 = nI (k - 1) := by
      obtain ⟨j, rfl⟩ : ∃ j, k = j + 1 := ⟨k - 1, by omega⟩
      exact nI_pred j
    rw [show (nI k - (1 : Int32)) = nI (k - 1) from e1]
    refine zT_bd (zT_w (X6_copyHouse hR (by omega) (by omega)) ?_)
    rintro M2 ⟨c1, c2, c3, c4, g⟩
    refine zT_some ⟨(k - 1) - a, by omega, k - 1, rfl, by omega, by omega, nI_dec (by omega), ?_, ?_⟩
    · exact (hag.mo (fun b j q => ⟨q.1, by omega⟩)).tr (g.mo (fun b j q => ⟨q.1, by omega⟩))
    · intro p j hp hj1 hj2
      by_cases e : j = k
      · subst e
        have b0 := hag (r + 1) (j - 1) (by omega)
        have b1 := hag (r + 2) (j - 1) (by omega)
        have b2 := hag (r + 3) (j - 1) (by omega)
        have b3 := hag (r + 4) (j - 1) (by omega)
        rcases (show p = 0 ∨ p = 1 ∨ p = 2 ∨ p = 3 by omega) with rfl | rfl | rfl | rfl
        · exact c1.trans b0
        · exact c2.trans b1
        · exact c3.trans b2
        · exact c4.trans b3
      · show M2 (r + 1 + p) j = _
        rw [g _ _ (by omega)]
        exact ej p j hp (by omega) hj2
theorem nI_sub1 {k : Nat} (h : 0 < k) : nI k - 1 = nI (k - 1) := by
  obtain ⟨j, rfl⟩ : ∃ j, k = j + 1 := ⟨k - 1, by omega⟩
  exact nI_pred j
theorem X6_remove {M : zM} {R : zR} {r n : Nat} {w : Nat → Int32} (hR : zrg R r) (h : RW M r n w) {a : Nat} (ha : a < n) : zT (f_X6_remove R M r (nI a)) (fun M1 => RW M1 r (n - 1) (goesF a w) ∧ zag (zblk r) M M1) := by
  obtain ⟨h1, h2, h3, h4, h5, h6, h7⟩ := id h
  unfold f_X6_remove
  refine zT_bd (zT_eq (hz_yes h ha) (zT_if0 (by decide) (zT_bd ?_)))
  refine zT_for (n - (a + 1)) (fun i v => v.1 = nI (a + 1 + i) ∧ zag (fun b j => (r + 1 ≤ b ∧ b < r + 5) ∧ a ≤ j ∧ j < a + i) M v.2 ∧ ∀ p j, p < 4 → a ≤ j → j < a + i → v.2 (r + 1 + p) j = M (r + 1 + p) (j + 1)) ⟨nI_1 a, zag.rf, fun p j _ q1 q2 => by omega⟩ (by omega) ?_ ?_
  · rintro i ⟨y, M1⟩ hi ⟨rfl, hag, ej⟩
    simp only at hag ej ⊢
    unfold b_X6_remove_13
    have e4 : M1 r 4 = nI n := by rw [hag _ _ (by omega)]; exact h2
    refine zT_if0 (by rw [nI_lit 10]; exact nI_ge (by omega) (by omega)) (zT_bd (zT_eq (hz_k h1 e4 (by omega)) (zT_if0 (by decide) ?_)))
    rw [nI_sub1 (by omega), show a + 1 + i - 1 = a + i by omega]
    refine zT_bd (zT_w (X6_copyHouse hR (by omega) (by omega)) ?_)
    rintro M2 ⟨c1, c2, c3, c4, g⟩
    refine zT_some ⟨nI_1 _, ?_, ?_⟩
    · exact (hag.mo (fun b j q => ⟨q.1, by omega⟩)).tr (g.mo (fun b j q => ⟨q.1, by omega⟩))
    · intro p j hp hj1 hj2
      by_cases e : j = a + i
      · subst e
        have b0 := hag (r + 1) (a + 1 + i) (by omega)
        have b1 := hag (r + 2) (a + 1 + i) (by omega)
        have b2 := hag (r + 3) (a + 1 + i) (by omega)
        have b3 := hag (r + 4) (a + 1 + i) (by omega)
        rw [show a + i + 1 = a + 1 + i by omega]
        rcases (show p = 0 ∨ p = 1 ∨ p = 2 ∨ p = 3 by omega) with rfl | rfl | rfl | rfl
        · exact c1.trans b0
        · exact c2.trans b1
        · exact c3.trans b2
        · exact c4.trans b3
      · show M2 (r + 1 + p) j = _
        rw [g _ _ (by omega)]
        exact ej p j hp hj1 (by omega)
  · rintro ⟨y, M1⟩ ⟨rfl, hag, ej⟩
    simp only at hag ej ⊢
    unfold b_X6_remove_13
    have e4 : M1 r 4 = nI n := by rw [hag _ _ (by omega)]; exact h2
    have fin : zT (zlt (zup M1 r 4 ((M1 r 4) - (1 : Int32))) fun M11 => some M11) (fun M1 => RW M1 r (n - 1) (goesF a w) ∧ zag (zblk r) M M1) := by
      refine zT_lt (zT_some ?_)
      have e5 : M1 r 5 = w 41 := by rw [hag _ _ (by omega)]; exact h4
      have e6 : M1 r 6 = w 42 := by rw [hag _ _ (by omega)]; exact h5
      have e7 : M1 r 7 = w 43 := by rw [hag _ _ (by omega)]; exact h6
      refine ⟨⟨by omega, ?_, ?_, ?_, ?_, ?_, fun j hj => ?_⟩, ?_⟩
      · rw [zup_same, e4, nI_sub1 (by omega)]
      · unfold goesF
        rw [if_pos rfl, h3, nI_sub1 (by omega)]
      · simp (disch := omega) only [zup_k, e5]
        rfl
      · simp (disch := omega) only [zup_k, e6]
        rfl
      · simp (disch := omega) only [zup_k, e7]
        rfl
      · refine four fun p hp => ?_
        rw [goesF_at hp (by omega)]
        simp (disch := omega) only [zup_a]
        by_cases q : j < a
        · rw [if_pos q, hag _ _ (by omega)]
          exact h.part hp (by omega)
        · rw [if_neg q, if_pos (by omega), ej p j hp (by omega) (by omega)]
          exact h.part hp (by omega)
      · exact zblk.up (hag.mo (fun b j q => by unfold zblk; omega))
    refine zT_if (fun _ => zT_some fin) (fun _ => zT_bd (zT_eq (by rw [show a + 1 + (n - (a + 1)) = n by omega]; exact hz_n h1 e4) (zT_if1 rfl (zT_some fin))))
def joinF (a g : Nat) (w : Nat → Int32) : Nat → Int32 := fun k => if k < 40 ∧ k % 10 = a then w k + w (k - a + g) else w k
theorem joinF_at {a g : Nat} {w : Nat → Int32} {p j : Nat} (hp : p < 4) (hj : j < 10) : joinF a g w (10 * p + j) = if j = a then w (10 * p + j) + w (10 * p + g) else w (10 * p + j) := by
  unfold joinF
  have m : (10 * p + j) % 10 = j := by omega
  rw [m]
  by_cases e : j = a
  · subst e
    rw [if_pos ⟨by omega, rfl⟩, if_pos rfl, show 10 * p + j - j + g = 10 * p + g by omega]
  · rw [if_neg (fun q => e q.2), if_neg e]
theorem X6_merge {M : zM} {R : zR} {r n : Nat} {w : Nat → Int32} (hR : zrg R r) (h : RW M r n w) {a g : Nat} (ha : a < n) (hg : g < n) (hne : a ≠ g) : zT (f_X6_merge R M r (nI a) (nI g)) (fun M1 => RW M1 r (n - 1) (goesF g (joinF a g w)) ∧ zag (zblk r) M M1) := by
  obtain ⟨h1, h2, h3, h4, h5, h6, h7⟩ := id h
  unfold f_X6_merge
  refine zT_bd (zT_eq (hz_yes h ha) (zT_if0 (by decide) (zT_bd (zT_eq (hz_yes h hg) (zT_if0 (by decide) ?_)))))
  have hz := zin_nI (k := a) (n := 10) (by omega) (by omega)
  have hz2 := zin_nI (k := g) (n := 10) (by omega) (by omega)
  refine zT_ck hz (zT_ck hz2 (zT_ck hz (zT_lt (zT_ck hz (zT_ck hz2 (zT_ck hz (zT_lt (zT_ck hz (zT_ck hz2 (zT_ck hz (zT_lt (zT_ck hz (zT_ck hz2 (zT_ck hz (zT_lt ?_)))))))))))))))
  rw [ztn_nI (by omega), ztn_nI (by omega), hR.1, hR.2.1, hR.2.2.1, hR.2.2.2]
  obtain ⟨a1, a2, a3, a4⟩ := h7 a ha
  obtain ⟨b1, b2, b3, b4⟩ := h7 g hg
  simp (disch := omega) only [zup_a, a1, a2, a3, a4, b1, b2, b3, b4]
  generalize hM2 : zup (zup (zup (zup M (r + 1) a (w a + w g)) (r + 2) a (w (10 + a) + w (10 + g))) (r + 3) a (w (20 + a) + w (20 + g))) (r + 4) a (w (30 + a) + w (30 + g)) = M2
  have g2 : zag (zblk r) M M2 := by
    rw [← hM2]
    exact (((zag.rf.up ⟨by omega, by omega⟩).up ⟨by omega, by omega⟩).up ⟨by omega, by omega⟩).up ⟨by omega, by omega⟩
  have r2 : RW M2 r n (joinF a g w) := by
    have lo : ∀ k, M2 r k = M r k := fun k => by rw [← hM2]; simp (disch := omega) only [zup_a]
    refine ⟨h1, by rw [lo]; exact h2, h3, by rw [lo]; exact h4, by rw [lo]; exact h5, by rw [lo]; exact h6, fun j hj => four fun p hp => ?_⟩
    rw [joinF_at hp (by omega)]
    have hp2 := h.part hp hj
    by_cases e : j = a
    · subst e
      rw [if_pos rfl, ← hM2]
      rcases (show p = 0 ∨ p = 1 ∨ p = 2 ∨ p = 3 by omega) with rfl | rfl | rfl | rfl
      · rw [show r + 1 + 0 = r + 1 from rfl]; simp (disch := omega) only [zup_same, zup_a]; simp
      · rw [show r + 1 + 1 = r + 2 from rfl]; simp (disch := omega) only [zup_same, zup_a]
      · rw [show r + 1 + 2 = r + 3 from rfl]; simp (disch := omega) only [zup_same, zup_a]
      · rw [show r + 1 + 3 = r + 4 from rfl]; simp (disch := omega) only [zup_same, zup_a]
    · rw [if_neg e, ← hM2]
      have u : ∀ (M0 : zM) (b v : Nat) (y : Int32), v ≠ j → zup M0 b v y (r + 1 + p) j = M0 (r + 1 + p) j := fun M0 b v y hv => by unfold zup; split <;> simp [Ne.symm hv]
      rw [u _ _ _ _ (Ne.symm e), u _ _ _ _ (Ne.symm e), u _ _ _ _ (Ne.symm e), u _ _ _ _ (Ne.symm e)]
      exact hp2
  refine zT_bd (zT_w (X6_remove hR r2 hg) ?_)
  rintro M3 ⟨r3, g3⟩
  exact zT_some ⟨r3, g2.tr g3⟩
def sumF (w : Nat → Int32) : Nat → Int32
  | 0 => 0
  | k + 1 => sumF w k + w k
def minF (w : Nat → Int32) : Nat → Int32
  | 0 => w 0
  | k + 1 => if w (k + 1) < minF w k then w (k + 1) else minF w k
def maxF (w : Nat → Int32) : Nat → Int32
  | 0 => w 0
  | k + 1 => if maxF w k < w (k + 1) then w (k + 1) else maxF w k
def apartF (n : Nat) (w : Nat → Int32) : Int32 := if n = 0 then 0 else maxF w (n - 1) - minF w (n - 1)
theorem zT_val {α : Type} {x : Option α} {v : α} (h : zT x (fun y => y = v)) : x = some v := by
  obtain ⟨y, e, rfl⟩ := h
  exact e
theorem X6_total {M : zM} {R : zR} {r n : Nat} {w : Nat → Int32} (hR : zrg R r) (h : RW M r n w) : f_X6_total R M r = some (sumF w n) := by
  obtain ⟨h1, h2, h3, h4, h5, h6, h7⟩ := id h
  apply zT_val
  unfold f_X6_total
  refine zT_bd ?_
  refine zT_for n (fun k v => v.2 = nI k ∧ v.1 = sumF w k) ⟨rfl, rfl⟩ (by omega) ?_ ?_
  · rintro k ⟨x, y⟩ hk ⟨rfl, rfl⟩
    unfold b_X6_total_4
    simp only
    refine zT_if0 (by rw [nI_lit 10]; exact nI_ge (by omega) (by omega)) (zT_bd (zT_eq (hz_yes h hk) (zT_if0 (by decide) (zT_ck (zin_nI (by omega) (by omega)) (zT_some ?_)))))
    rw [ztn_nI (by omega), hR.1, (h7 k hk).1]
    exact ⟨nI_1 k, rfl⟩
  · rintro ⟨x, y⟩ ⟨rfl, rfl⟩
    unfold b_X6_total_4
    simp only
    exact zT_if (fun _ => zT_some (zT_some rfl)) (fun _ => zT_bd (zT_eq (hz_end h) (zT_if1 rfl (zT_some (zT_some rfl)))))
theorem X6_spread {M : zM} {R : zR} {r n : Nat} {w : Nat → Int32} (hR : zrg R r) (h : RW M r n w) : f_X6_spread R M r = some (apartF n w) := by
  obtain ⟨h1, h2, h3, h4, h5, h6, h7⟩ := id h
  apply zT_val
  unfold f_X6_spread
  by_cases hn : n = 0
  · subst hn
    refine zT_bd (zT_eq (hz_end h) (zT_if1 rfl (zT_some rfl)))
  refine zT_bd (zT_eq (hz_yes h (k := 0) (by omega)) (zT_if0 (by decide) (zT_bd ?_)))
  have e0 : M (R r 0) (ztn (0 : Int32)) = w 0 := by rw [hR.1]; exact (h7 0 (by omega)).1
  rw [e0]
  refine zT_for (n - 1) (fun k v => v.2.2 = nI (k + 1) ∧ v.1 = minF w k ∧ v.2.1 = maxF w k) ⟨rfl, rfl, rfl⟩ (by omega) ?_ ?_
  · rintro k ⟨x, y, z⟩ hk ⟨rfl, rfl, rfl⟩
    unfold b_X6_spread_26
    simp only
    have hz := zin_nI (k := k + 1) (n := 10) (by omega) (by omega)
    refine zT_if0 (by rw [nI_lit 10]; exact nI_ge (by omega) (by omega)) (zT_bd (zT_eq (hz_yes h (by omega)) (zT_if0 (by decide) (zT_ck hz (zT_ck hz (zT_some ?_))))))
    rw [ztn_nI (by omega), hR.1, (h7 (k + 1) (by omega)).1]
    exact ⟨nI_1 _, rfl, rfl⟩
  · rintro ⟨x, y, z⟩ ⟨rfl, rfl, rfl⟩
    unfold b_X6_spread_26
    simp only
    rw [show n - 1 + 1 = n by omega]
    have fin : zT (some (maxF w (n - 1) - minF w (n - 1))) (fun y => y = apartF n w) := zT_some (by unfold apartF; rw [if_neg hn])
    exact zT_if (fun _ => zT_some fin) (fun _ => zT_bd (zT_eq (hz_end h) (zT_if1 rfl (zT_some fin))))

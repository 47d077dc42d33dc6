/-! LOGIC: what a decompiled function gives, said forwards -/
abbrev zT {α : Type} (x : Option α) (Q : α → Prop) : Prop := ∃ a, x = some a ∧ Q a
theorem zT_some {α : Type} {a : α} {Q : α → Prop} (h : Q a) : zT (some a) Q := ⟨a, rfl, h⟩
theorem zT_w {α : Type} {x : Option α} {Q Q1 : α → Prop} (h : zT x Q) (hq : ∀ a, Q a → Q1 a) : zT x Q1 := by
  obtain ⟨a, e, q⟩ := h
  exact ⟨a, e, hq a q⟩
theorem zT_ck {α : Type} {b : Bool} {x : Option α} {Q : α → Prop} (hb : b = true) (h : zT x Q) : zT (zck b x) Q := by
  unfold zck
  rw [if_pos hb]
  exact h
theorem zT_lt {α β : Type} {a : α} {f : α → Option β} {Q : β → Prop} (h : zT (f a) Q) : zT (zlt a f) Q := h
theorem zT_bd {α β : Type} {x : Option α} {f : α → Option β} {Q : β → Prop} (h : zT x (fun a => zT (f a) Q)) : zT (zbd x f) Q := by
  obtain ⟨a, e, q⟩ := h
  rw [e]
  exact q
theorem zT_bd2 {α γ β : Type} {x : Option (α × γ)} {f : α → γ → Option β} {Q : β → Prop} (h : zT x (fun p => zT (f p.1 p.2) Q)) : zT (zbd2 x f) Q := by
  obtain ⟨a, e, q⟩ := h
  rw [e]
  exact q
theorem zT_bd3 {α γ δ β : Type} {x : Option (α × γ × δ)} {f : α → γ → δ → Option β} {Q : β → Prop} (h : zT x (fun p => zT (f p.1 p.2.1 p.2.2) Q)) : zT (zbd3 x f) Q := by
  obtain ⟨a, e, q⟩ := h
  rw [e]
  exact q
theorem zT_if {α : Type} {c : Prop} {inst : Decidable c} {a b : Option α} {Q : α → Prop} (h1 : c → zT a Q) (h2 : ¬ c → zT b Q) : zT (if c then a else b) Q := by
  by_cases hc : c
  · rw [if_pos hc]
    exact h1 hc
  · rw [if_neg hc]
    exact h2 hc
theorem zT_if1 {α : Type} {c : Prop} {inst : Decidable c} {a b : Option α} {Q : α → Prop} (hc : c) (h1 : zT a Q) : zT (if c then a else b) Q := by
  rw [if_pos hc]
  exact h1
theorem zT_if0 {α : Type} {c : Prop} {inst : Decidable c} {a b : Option α} {Q : α → Prop} (hc : ¬ c) (h1 : zT b Q) : zT (if c then a else b) Q := by
  rw [if_neg hc]
  exact h1
theorem zT_eq {α : Type} {x : Option α} {a : α} {Q : α → Prop} (h : x = some a) (q : Q a) : zT x Q := ⟨a, h, q⟩
/-- a loop: a measure falls, or it ends -/
theorem zT_loopN {V E : Type} {b : V → Option (V ⊕ E)} {I : Nat → V → Prop} {Q : E → Prop} (hs : ∀ k v, I k v → zT (b v) (Sum.elim (fun v1 => ∃ k1, k1 < k ∧ I k1 v1) Q)) : ∀ (n k : Nat) (v : V), I k v → k < n → zT (zloop n b v) Q := by
  intro n
  induction n with
  | zero => intro k v _ h; omega
  | succ n ih =>
    intro k v hI hk
    obtain ⟨x, e, q⟩ := hs k v hI
    unfold zloop
    rw [e]
    cases x with
    | inl v1 =>
      obtain ⟨k1, h1, h2⟩ := q
      exact ih k1 v1 h2 (by omega)
    | inr e1 => exact ⟨e1, rfl, q⟩
theorem zT_loop {V E : Type} {b : V → Option (V ⊕ E)} (I : Nat → V → Prop) {Q : E → Prop} (k : Nat) {v : V} (h0 : I k v) (hk : k < 1000000) (hs : ∀ k v, I k v → zT (b v) (Sum.elim (fun v1 => ∃ k1, k1 < k ∧ I k1 v1) Q)) : zT (zloop zN b v) Q := zT_loopN hs _ k v h0 hk
/-- a counted loop: at k < n it goes on, at n it ends; or it ends earlier -/
theorem zT_for {V E : Type} {b : V → Option (V ⊕ E)} (n : Nat) (I : Nat → V → Prop) {Q : E → Prop} {v : V} (h0 : I 0 v) (hn : n < 999999) (hs : ∀ k v, k < n → I k v → zT (b v) (Sum.elim (fun v1 => I (k + 1) v1) Q)) (he : ∀ v, I n v → zT (b v) (Sum.elim (fun _ => False) Q)) : zT (zloop zN b v) Q := by
  refine zT_loop (fun m v => ∃ k, k ≤ n ∧ m = n - k ∧ I k v) n ⟨0, Nat.zero_le _, rfl, h0⟩ (by omega) ?_
  rintro m v ⟨k, hk, rfl, hI⟩
  by_cases hkn : k = n
  · subst hkn
    refine zT_w (he v hI) ?_
    rintro (x | x) q
    · exact q.elim
    · exact q
  · refine zT_w (hs k v (by omega) hI) ?_
    rintro (x | x) q
    · exact ⟨n - (k + 1), by omega, k + 1, by omega, rfl, q⟩
    · exact q
theorem ztn_nI {k : Nat} (h : k < 2147483648) : ztn (nI k) = k := nI_clamp h
theorem zin_nI {k n : Nat} (h : k < n) (hn : n < 2147483648) : zin (nI k) n = true := by
  unfold zin
  rw [Bool.and_eq_true, decide_eq_true_eq, decide_eq_true_eq]
  exact ⟨nI_pos' (by omega), by rw [nI_clamp (by omega)]; exact h⟩
theorem nI_lit (k : Nat) : (OfNat.ofNat k : Int32) = nI k := rfl
theorem nI_dec {k : Nat} (h : 0 < k) : nI k + (-1) = nI (k - 1) := by
  obtain ⟨j, rfl⟩ : ∃ j, k = j + 1 := ⟨k - 1, by omega⟩
  rw [Nat.add_sub_cancel, nI_succ, Int32.add_assoc]
  have : (1 : Int32) + (-1) = 0 := by decide
  rw [this, Int32.add_zero]
/-- an int is a small number, or it isn't -/
theorem nI_cases (x : Int32) (n : Nat) (hn : n < 2147483648) : (∃ k, k < n ∧ x = nI k) ∨ (x < 0 ∨ nI n ≤ x) := by
  by_cases h0 : x < 0
  · exact Or.inr (Or.inl h0)
  · obtain ⟨j, hj, rfl⟩ := nI_of h0
    by_cases h : j < n
    · exact Or.inl ⟨j, h, rfl⟩
    · exact Or.inr (Or.inr (nI_le (by omega) hj))
/-- writes -/
theorem zup_same {M : zM} {a k : Nat} {v : Int32} : zup M a k v a k = v := by simp [zup]
theorem zup_k {M : zM} {a k j : Nat} {v : Int32} (h : j ≠ k) : zup M a k v a j = M a j := by simp [zup, h]
theorem zup_a {M : zM} {a b k j : Nat} {v : Int32} (h : b ≠ a) : zup M a k v b j = M b j := by simp [zup, h]
theorem upd_s {f : Nat → Int32} {k : Nat} {x : Int32} : upd f k x k = x := by simp [upd]
theorem upd_n {f : Nat → Int32} {k j : Nat} {x : Int32} (h : j ≠ k) : upd f k x j = f j := by simp [upd, h]
/-- the memory is as it was but at the cells in A -/
def zag (A : Nat → Nat → Prop) (M M1 : zM) : Prop := ∀ a k, ¬ A a k → M1 a k = M a k
theorem zag.rf {A : Nat → Nat → Prop} {M : zM} : zag A M M := fun _ _ _ => rfl
theorem zag.tr {A : Nat → Nat → Prop} {M M1 M2 : zM} (h : zag A M M1) (h2 : zag A M1 M2) : zag A M M2 := fun a k ha => (h2 a k ha).trans (h a k ha)
theorem zag.up {A : Nat → Nat → Prop} {M M1 : zM} {a k : Nat} {v : Int32} (h : zag A M M1) (ha : A a k) : zag A M (zup M1 a k v) := fun b j hb => by
  unfold zup
  by_cases e : b = a
  · by_cases e2 : j = k
    · exact absurd (e ▸ e2 ▸ ha) hb
    · rw [if_pos e, if_neg e2]
      exact h b j hb
  · rw [if_neg e]
    exact h b j hb
theorem zag.mo {A B : Nat → Nat → Prop} {M M1 : zM} (h : zag A M M1) (hab : ∀ a k, A a k → B a k) : zag B M M1 := fun a k ha => h a k (fun q => ha (hab a k q))
/-- THE RING OBJECT r as a row of 60 -/
def RW (M : zM) (r n : Nat) (w : Nat → Int32) : Prop := n ≤ 10 ∧ M r 4 = nI n ∧ w 40 = nI n ∧ M r 5 = w 41 ∧ M r 6 = w 42 ∧ M r 7 = w 43 ∧ ∀ h, h < n → M (r + 1) h = w h ∧ M (r + 2) h = w (10 + h) ∧ M (r + 3) h = w (20 + h) ∧ M (r + 4) h = w (30 + h)
def zrg (R : zR) (r : Nat) : Prop := R r 0 = r + 1 ∧ R r 1 = r + 2 ∧ R r 2 = r + 3 ∧ R r 3 = r + 4
def zblk (r : Nat) : Nat → Nat → Prop := fun a _ => r ≤ a ∧ a < r + 5
theorem RW.eq {A : Nat → Nat → Prop} {M M1 : zM} {r n : Nat} {w : Nat → Int32} (h : RW M r n w) (hg : zag A M M1) (he : ∀ a k, r ≤ a → a < r + 5 → ¬ A a k) : RW M1 r n w := by
  obtain ⟨h1, h2, h3, h4, h5, h6, h7⟩ := h
  have g : ∀ a k, r ≤ a → a < r + 5 → M1 a k = M a k := fun a k q1 q2 => hg a k (he a k q1 q2)
  refine ⟨h1, by rw [g r 4 (by omega) (by omega)]; exact h2, h3, by rw [g r 5 (by omega) (by omega)]; exact h4, by rw [g r 6 (by omega) (by omega)]; exact h5, by rw [g r 7 (by omega) (by omega)]; exact h6, fun h hh => ?_⟩
  rw [g (r + 1) h (by omega) (by omega), g (r + 2) h (by omega) (by omega), g (r + 3) h (by omega) (by omega), g (r + 4) h (by omega) (by omega)]
  exact h7 h hh
/-! class side: the methods of Ring -/
theorem hz_yes {M : zM} {r n : Nat} {w : Nat → Int32} (h : RW M r n w) {k : Nat} (hk : k < n) : f_X6_has M r (nI k) = some 1 := by
  obtain ⟨h1, h2, -⟩ := h
  unfold f_X6_has
  rw [if_neg (nI_pos (by omega)), h2, if_neg (nI_ge hk (by omega)), nI_lit 10, if_neg (nI_ge (by omega) (by omega))]
theorem hz_no {M : zM} {r n : Nat} {w : Nat → Int32} (h : RW M r n w) {x : Int32} (hx : x < 0 ∨ nI n ≤ x) : f_X6_has M r x = some 0 := by
  obtain ⟨h1, h2, -⟩ := h
  unfold f_X6_has
  by_cases h0 : x < 0
  · rw [if_pos h0]
  · rw [if_neg h0, h2, if_pos (hx.resolve_left h0)]
theorem hz_end {M : zM} {r n : Nat} {w : Nat → Int32} (h : RW M r n w) : f_X6_has M r (nI n) = some 0 := hz_no h (Or.inr (nI_le (Nat.le_refl _) (by have := h.1; omega)))
/-- the row's operations -/
def shF (w : Nat → Int32) (h : Nat) : Int32 := w h - w (10 + h)
def payF (w : Nat → Int32) (h : Nat) (x : Int32) : Nat → Int32 := upd (upd (upd (upd w h (w h - x)) 41 (w 41 + x)) (20 + h) x) (30 + h) (w (30 + h) + x)
theorem X6_shown {M : zM} {R : zR} {r n : Nat} {w : Nat → Int32} (hR : zrg R r) (h : RW M r n w) {k : Nat} (hk : k < n) : f_X6_shown R M r (nI k) = some (shF w k) := by
  obtain ⟨h1, h2, h3, h4, h5, h6, h7⟩ := h
  obtain ⟨e1, e2, -⟩ := h7 k hk
  unfold f_X6_shown
  rw [if_neg (nI_pos (by omega)), h2, if_neg (nI_ge hk (by omega)), nI_lit 10, if_pos (nI_lt (by omega) (by omega))]
  unfold zck
  rw [if_pos (zin_nI (by omega) (by omega)), if_pos (zin_nI (by omega) (by omega)), ztn_nI (by omega), hR.1, hR.2.1, e1, e2]
  rfl
theorem X6_pay {M : zM} {R : zR} {r n : Nat} {w : Nat → Int32} (hR : zrg R r) (h : RW M r n w) {k : Nat} (hk : k < n) (x : Int32) : zT (f_X6_pay R M r (nI k) x) (fun M1 => RW M1 r n (payF w k x) ∧ zag (zblk r) M M1) := by
  obtain ⟨h1, h2, h3, h4, h5, h6, h7⟩ := id h
  unfold f_X6_pay
  refine zT_bd (zT_eq (hz_yes h hk) ?_)
  refine zT_if0 (by decide) ?_
  have hz := zin_nI (k := k) (n := 10) (by omega) (by omega)
  refine zT_ck hz (zT_ck hz (zT_lt (zT_lt (zT_ck hz (zT_lt (zT_ck hz (zT_ck hz (zT_lt (zT_some ?_)))))))))
  rw [ztn_nI (by omega), hR.1, hR.2.2.1, hR.2.2.2]
  refine ⟨⟨h1, ?_, ?_, ?_, ?_, ?_, ?_⟩, ?_⟩
  · simp (disch := omega) only [zup_same, zup_k, zup_a, h2]
  · simp (disch := omega) only [payF, upd_s, upd_n, h3]
  · simp (disch := omega) only [zup_same, zup_k, zup_a, payF, upd_s, upd_n, h4]
  · simp (disch := omega) only [zup_same, zup_k, zup_a, payF, upd_s, upd_n, h5]
  · simp (disch := omega) only [zup_same, zup_k, zup_a, payF, upd_s, upd_n, h6]
  · intro h hh
    obtain ⟨g1, g2, g3, g4⟩ := h7 h hh
    by_cases e : h = k
    · subst e
      simp (disch := omega) only [zup_same, zup_k, zup_a, payF, upd_s, upd_n, g1, g2, g3, g4, and_self]
    · simp (disch := omega) only [zup_same, zup_k, zup_a, payF, upd_s, upd_n, g1, g2, g3, g4, and_self]
  · exact ((((zag.rf.up ⟨by omega, by omega⟩).up ⟨by omega, by omega⟩).up ⟨by omega, by omega⟩).up ⟨by omega, by omega⟩)
/-- the loops of this class: for k < n while it has k -/
theorem X6_earn {M : zM} {R : zR} {r n : Nat} {w : Nat → Int32} (hR : zrg R r) (h : RW M r n w) {k : Nat} (hk : k < n) (x : Int32) : zT (f_X6_earn R M r (nI k) x) (fun M1 => RW M1 r n (upd w k (w k + x)) ∧ zag (zblk r) M M1) := by
  obtain ⟨h1, h2, h3, h4, h5, h6, h7⟩ := id h
  unfold f_X6_earn
  refine zT_bd (zT_eq (hz_yes h hk) ?_)
  refine zT_if0 (by decide) ?_
  have hz := zin_nI (k := k) (n := 10) (by omega) (by omega)
  refine zT_ck hz (zT_ck hz (zT_lt (zT_some ?_)))
  rw [ztn_nI (by omega), hR.1]
  refine ⟨⟨h1, ?_, ?_, ?_, ?_, ?_, ?_⟩, ?_⟩
  · simp (disch := omega) only [zup_same, zup_k, zup_a, h2]
  · simp (disch := omega) only [upd_s, upd_n, h3]
  · simp (disch := omega) only [zup_same, zup_k, zup_a, upd_s, upd_n, h4]
  · simp (disch := omega) only [zup_same, zup_k, zup_a, upd_s, upd_n, h5]
  · simp (disch := omega) only [zup_same, zup_k, zup_a, upd_s, upd_n, h6]
  · intro h hh
    obtain ⟨g1, g2, g3, g4⟩ := h7 h hh
    by_cases e : h = k
    · subst e
      simp (disch := omega) only [zup_same, zup_k, zup_a, upd_s, upd_n, g1, g2, g3, g4, and_self]
    · simp (disch := omega) only [zup_same, zup_k, zup_a, upd_s, upd_n, g1, g2, g3, g4, and_self]
  · exact zag.rf.up ⟨by omega, by omega⟩
theorem X6_purseOf {M : zM} {R : zR} {r n : Nat} {w : Nat → Int32} (hR : zrg R r) (h : RW M r n w) {k : Nat} (hk : k < n) : f_X6_purseOf R M r (nI k) = some (w k) := by
  unfold f_X6_purseOf
  rw [hz_yes h hk]
  obtain ⟨h1, h2, h3, h4, h5, h6, h7⟩ := h
  unfold zbd zck
  simp only
  rw [if_neg (by decide), if_pos (zin_nI (by omega) (by omega)), ztn_nI (by omega), hR.1, (h7 k hk).1]
theorem X6_paidBy {M : zM} {R : zR} {r n : Nat} {w : Nat → Int32} (hR : zrg R r) (h : RW M r n w) {k : Nat} (hk : k < n) : f_X6_paidBy R M r (nI k) = some (w (20 + k)) := by
  unfold f_X6_paidBy
  rw [hz_yes h hk]
  obtain ⟨h1, h2, h3, h4, h5, h6, h7⟩ := h
  unfold zbd zck
  simp only
  rw [if_neg (by decide), if_pos (zin_nI (by omega) (by omega)), ztn_nI (by omega), hR.2.2.1, (h7 k hk).2.2.1]
def moveF (w : Nat → Int32) (h o : Nat) (x : Int32) : Nat → Int32 := upd (upd w h (w h - x)) o ((upd w h (w h - x)) o + x)
theorem X6_move {M : zM} {R : zR} {r n : Nat} {w : Nat → Int32} (hR : zrg R r) (h : RW M r n w) {k o : Nat} (hk : k < n) (ho : o < n) (x : Int32) : zT (f_X6_move R M r (nI k) (nI o) x) (fun M1 => RW M1 r n (moveF w k o x) ∧ zag (zblk r) M M1) := by
  obtain ⟨h1, h2, h3, h4, h5, h6, h7⟩ := id h
  unfold f_X6_move
  refine zT_bd (zT_eq (hz_yes h hk) (zT_if0 (by decide) (zT_bd (zT_eq (hz_yes h ho) (zT_if0 (by decide) ?_)))))
  have hz := zin_nI (k := k) (n := 10) (by omega) (by omega)
  have hz2 := zin_nI (k := o) (n := 10) (by omega) (by omega)
  refine zT_ck hz (zT_ck hz (zT_lt (zT_ck hz2 (zT_ck hz2 (zT_lt (zT_some ?_))))))
  rw [ztn_nI (by omega), ztn_nI (by omega), hR.1]
  obtain ⟨f1, -⟩ := h7 k hk
  obtain ⟨f2, -⟩ := h7 o ho
  refine ⟨⟨h1, ?_, ?_, ?_, ?_, ?_, ?_⟩, ?_⟩
  · simp (disch := omega) only [zup_same, zup_k, zup_a, h2]
  · simp (disch := omega) only [moveF, upd_s, upd_n, h3]
  · simp (disch := omega) only [zup_same, zup_k, zup_a, moveF, upd_s, upd_n, h4]
  · simp (disch := omega) only [zup_same, zup_k, zup_a, moveF, upd_s, upd_n, h5]
  · simp (disch := omega) only [zup_same, zup_k, zup_a, moveF, upd_s, upd_n, h6]
  · intro h hh
    obtain ⟨g1, g2, g3, g4⟩ := h7 h hh
    by_cases e : h = o
    · subst e
      by_cases e2 : h = k
      · subst e2
        simp (disch := omega) only [zup_same, zup_k, zup_a, moveF, upd_s, upd_n, g1, g2, g3, g4, and_self]
      · simp (disch := omega) only [zup_same, zup_k, zup_a, moveF, upd_s, upd_n, g1, g2, g3, g4, and_self]
    · by_cases e2 : h = k
      · subst e2
        simp (disch := omega) only [zup_same, zup_k, zup_a, moveF, upd_s, upd_n, g1, g2, g3, g4, and_self]
      · simp (disch := omega) only [zup_same, zup_k, zup_a, moveF, upd_s, upd_n, g1, g2, g3, g4, and_self]
  · exact (zag.rf.up ⟨by omega, by omega⟩).up ⟨by omega, by omega⟩
/-- copy: the other ring's row -/
theorem X6_copy {M : zM} {R : zR} {r q n : Nat} {w : Nat → Int32} (hR : zrg R r) (hQ : zrg R q) (h : RW M q n w) (hd : r + 5 ≤ q ∨ q + 5 ≤ r) : zT (f_X6_copy R M r q) (fun M1 => RW M1 r n w ∧ zag (zblk r) M M1) := by
  obtain ⟨h1, h2, h3, h4, h5, h6, h7⟩ := id h
  unfold f_X6_copy
  refine zT_lt (zT_lt (zT_lt (zT_lt (zT_bd ?_))))
  simp (disch := omega) only [zup_same, zup_k, zup_a]
  refine zT_for n (fun k v => v.1 = nI k ∧ zag (zblk r) M v.2 ∧ v.2 r 4 = nI n ∧ v.2 r 5 = w 41 ∧ v.2 r 6 = w 42 ∧ v.2 r 7 = w 43 ∧ ∀ j, j < k → v.2 (r + 1) j = w j ∧ v.2 (r + 2) j = w (10 + j) ∧ v.2 (r + 3) j = w (20 + j) ∧ v.2 (r + 4) j = w (30 + j)) ⟨rfl, (((zag.rf.up ⟨by omega, by omega⟩).up ⟨by omega, by omega⟩).up ⟨by omega, by omega⟩).up ⟨by omega, by omega⟩, ?_, ?_, ?_, ?_, fun j hj => absurd hj (by omega)⟩ (by omega) ?_ ?_
  · simp (disch := omega) only [zup_same, zup_k, zup_a, h2]
  · simp (disch := omega) only [zup_same, zup_k, zup_a, h4]
  · simp (disch := omega) only [zup_same, zup_k, zup_a, h5]
  · simp (disch := omega) only [zup_same, zup_k, zup_a, h6]
  · rintro k ⟨x, M1⟩ hk ⟨rfl, hag, e4, e5, e6, e7, ej⟩
    simp only at hag e4 e5 e6 e7 ej ⊢
    unfold b_X6_copy_34
    rw [e4]
    refine zT_if0 (nI_ge hk (by omega)) (zT_if0 (by rw [nI_lit 10]; exact nI_ge (by omega) (by omega)) ?_)
    have hz := zin_nI (k := k) (n := 10) (by omega) (by omega)
    refine zT_ck hz (zT_ck hz (zT_lt (zT_ck hz (zT_ck hz (zT_lt (zT_ck hz (zT_ck hz (zT_lt (zT_ck hz (zT_ck hz (zT_lt (zT_some ?_)))))))))))) 
    rw [ztn_nI (by omega), hR.1, hR.2.1, hR.2.2.1, hR.2.2.2, hQ.1, hQ.2.1, hQ.2.2.1, hQ.2.2.2]
    show _ ∧ _
    obtain ⟨g1, g2, g3, g4⟩ := h7 k hk
    have c1 : M1 (q + 1) k = w k := by rw [hag _ _ (by unfold zblk; omega)]; exact g1
    have c2 : M1 (q + 2) k = w (10 + k) := by rw [hag _ _ (by unfold zblk; omega)]; exact g2
    have c3 : M1 (q + 3) k = w (20 + k) := by rw [hag _ _ (by unfold zblk; omega)]; exact g3
    have c4 : M1 (q + 4) k = w (30 + k) := by rw [hag _ _ (by unfold zblk; omega)]; exact g4
    simp (disch := omega) only [zup_same, zup_k, zup_a, c1, c2, c3, c4]
    refine ⟨(nI_succ k).symm, (((hag.up ⟨by omega, by omega⟩).up ⟨by omega, by omega⟩).up ⟨by omega, by omega⟩).up ⟨by omega, by omega⟩, e4, e5, e6, e7, fun j hj => ?_⟩
    by_cases e : j = k
    · subst e
      simp (disch := omega) only [zup_same, zup_k, zup_a, and_self]
    · obtain ⟨f1, f2, f3, f4⟩ := ej j (by omega)
      simp (disch := omega) only [zup_same, zup_k, zup_a, f1, f2, f3, f4, and_self]
  · rintro ⟨x, M1⟩ ⟨rfl, hag, e4, e5, e6, e7, ej⟩
    simp only at hag e4 e5 e6 e7 ej ⊢
    unfold b_X6_copy_34
    rw [e4]
    refine zT_if1 (nI_le (Nat.le_refl _) (by omega)) (zT_some ?_)
    exact zT_some ⟨⟨h1, e4, h3, e5, e6, e7, ej⟩, hag⟩

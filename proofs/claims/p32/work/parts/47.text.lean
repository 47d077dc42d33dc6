/-! READ: what a text says, token by token (kinds as the reference numbers them) */ -/
def kdL : List Int32 := [0, 1, 2, 3, 4, 5, 6, 7, 8, 9, 10, 13, 15, 20, 21, 22, 23, 24, 25, 26, 27, 28, 29, 30, 31, 32, 33, 34, 35, 36, 37, 38, 39]
def ckF (k : Int32) : Int32 := if k = 0 then 0 else if k = 1 then 2 else if k = 2 then 3 else if k = 3 then 1 else if k = 4 then 59 else if k = 5 then 61 else if k = 6 then 40 else if k = 7 then 41 else if k = 8 then 43 else if k = 9 then 45 else if k = 10 then 42 else if k = 13 then 60 else if k = 15 then 47 else if k = 26 then 110 else if k = 27 then 111 else if k = 28 then 112 else if k = 29 then 106 else if k = 30 then 107 else if k = 31 then 108 else if k = 32 then 109 else k + 80
theorem ck_all : kdL.all (fun a => kdL.all (fun b => decide (ckF a = ckF b) == decide (a = b))) = true := by decide +kernel
theorem ck_inj {a b : Int32} (ha : a ∈ kdL) (hb : b ∈ kdL) : ckF a = ckF b ↔ a = b := by
  have h := List.all_eq_true.1 (List.all_eq_true.1 ck_all a ha) b hb
  simp only [beq_iff_eq, decide_eq_decide] at h
  exact h
theorem ck_is {a c : Int32} (b : Int32) (ha : a ∈ kdL) (hb : b ∈ kdL) (hc : ckF b = c) : ckF a = c ↔ a = b := by
  rw [← hc]
  exact ck_inj ha hb
abbrev tF := Nat × Nat
def sB {α β : Type} (x : tF ⊕ α) (f : α → tF ⊕ β) : tF ⊕ β := match x with
  | .inl e => .inl e
  | .inr a => f a
def goS (t : Nat) : tF ⊕ Nat := if t = 400 then .inl (2, t) else .inr (t + 1)
def mustS (K : Nat → Int32) (k : Int32) (t : Nat) : tF ⊕ Nat := if K t = k then goS t else .inl (1, t)
def bondR (k : Int32) : Nat := if k = 10 ∨ k = 15 then 2 else if k = 8 ∨ k = 9 then 1 else 0
def opC (k : Int32) : Int32 := if k = 8 then 2 else if k = 9 then 3 else if k = 10 then 4 else 5
/-- the signs that come out of those that wait, and those that stay -/
def popS (lb : Nat) : List Int32 → zEx × List Int32
  | [] => ([], [])
  | w :: s => if bondR w < lb then ([], w :: s) else ((opC w, 0) :: (popS lb s).1, (popS lb s).2)
/-- an E -/
def sumS (K V : Nat → Int32) : Nat → Nat → Nat → List Int32 → zEx → Bool → tF ⊕ (Nat × zEx)
  | 0, t, _, _, _, _ => .inl (1, t)
  | m + 1, t, op, stk, out, true =>
    if K t = 6 then (if op = 6 then .inl (2, t) else sB (goS t) fun t1 => sumS K V m t1 (op + 1) (6 :: stk) out true)
    else if K t = 2 then sB (goS t) fun t1 => sumS K V m t1 op stk (out ++ [(0, V t)]) false
    else if 33 ≤ K t ∧ K t ≤ 39 then sB (goS t) fun t1 => sumS K V m t1 op stk (out ++ [(1, K t - 33)]) false
    else .inl (1, t)
  | m + 1, t, op, stk, out, false =>
    if K t = 7 ∧ 0 < op then sB (goS t) fun t1 => sumS K V m t1 (op - 1) (popS 1 stk).2.tail (out ++ (popS 1 stk).1) false
    else if 0 < bondR (K t) then sB (goS t) fun t1 => sumS K V m t1 op (K t :: (popS (bondR (K t)) stk).2) (out ++ (popS (bondR (K t)) stk).1) true
    else if 0 < op then .inl (1, t) else .inr (t, out ++ (popS 1 stk).1)
def exS (K V : Nat → Int32) (t : Nat) : tF ⊕ (Nat × zEx) := sumS K V (401 - t) t 0 [] [] true
def braS (K V : Nat → Int32) (t : Nat) : tF ⊕ (Nat × (Option (zEx × zEx) × zEx)) :=
  sB (goS t) fun t1 => sB (exS K V t1) fun r2 => sB (mustS K 13 r2.1) fun t3 => sB (exS K V t3) fun r4 => sB (mustS K 31 r4.1) fun t5 => sB (exS K V t5) fun r6 => sB (mustS K 32 r6.1) fun t7 => .inr (t7, (some (r2.2, r4.2), r6.2))
def ifsS (K V : Nat → Int32) : Nat → Nat → zPr → tF ⊕ (Nat × zPr)
  | 0, t, _ => .inl (1, t)
  | m + 1, t, P => if K t = 30 then (if m = 0 then .inl (2, t) else sB (braS K V t) fun r => ifsS K V m r.1 (P ++ [r.2]))
    else sB (exS K V t) fun r => sB (mustS K 4 r.1) fun t2 => .inr (t2, P ++ [(none, r.2)])
def lawS (K V : Nat → Int32) (t : Nat) : tF ⊕ (Nat × zPr) := sB (goS t) fun t1 => sB (mustS K 5 t1) fun t2 => ifsS K V 5 t2 []
/-- names' tokens, rules, the first lesser fault -/
abbrev zTx := List Nat × zRu × Option tF
def laterS (w : Option tF) (k t : Nat) : Option tF := match w with
  | none => some (k, t)
  | some e => some e
def telS (K V : Nat → Int32) (E : Nat → Nat → Bool) (t : Nat) (x : zTx) : tF ⊕ (Nat × zTx) :=
  if K t = 20 then (if x.1.length = 10 then .inl (2, t) else sB (goS t) fun t1 => sB (mustS K 1 t1) fun t2 => sB (mustS K 2 t2) fun t3 => sB (mustS K 4 t3) fun t4 => .inr (t4, (x.1 ++ [t1], x.2.1, if x.1.any (fun i => E i t1) then laterS x.2.2 3 t1 else x.2.2)))
  else if K t = 21 then sB (goS t) fun t1 => sB (mustS K 4 t1) fun t2 => .inr (t2, (x.1, ((1, x.2.1.1.2), x.2.1.2), x.2.2))
  else if K t = 22 then sB (goS t) fun t1 => sB (mustS K 4 t1) fun t2 => .inr (t2, (x.1, ((x.2.1.1.1, 1, x.2.1.1.2.2), x.2.1.2), x.2.2))
  else if K t = 23 then sB (lawS K V t) fun r => .inr (r.1, (x.1, (x.2.1.1, r.2, x.2.1.2.2), x.2.2))
  else if K t = 24 then sB (lawS K V t) fun r => .inr (r.1, (x.1, (x.2.1.1, x.2.1.2.1, r.2), x.2.2))
  else if K t = 25 then sB (goS t) fun t1 => if K t1 = 26 ∨ K t1 = 27 ∨ K t1 = 28 then sB (goS t1) fun t2 => sB (mustS K 2 t2) fun t3 => sB (mustS K 4 t3) fun t4 => .inr (t4, (x.1, ((x.2.1.1.1, x.2.1.1.2.1, K t1 - 26, V t2, x.2.1.1.2.2.2.2), x.2.1.2), if V t2 < 1 ∨ 30 < V t2 then laterS x.2.2 5 t2 else x.2.2)) else .inl (1, t1)
  else if K t = 29 then sB (goS t) fun t1 => sB (mustS K 2 t1) fun t2 => sB (mustS K 4 t2) fun t3 => .inr (t3, (x.1, ((x.2.1.1.1, x.2.1.1.2.1, x.2.1.1.2.2.1, x.2.1.1.2.2.2.1, V t1), x.2.1.2), x.2.2))
  else .inl (1, t)
def texS (K V : Nat → Int32) (E : Nat → Nat → Bool) : Nat → Nat → zTx → tF ⊕ (Nat × zTx)
  | 0, t, _ => .inl (1, t)
  | m + 1, t, x => if K t = 0 then .inr (t, x) else sB (telS K V E t x) fun r => texS K V E m r.1 r.2
/-! depths -/
def dR : zEx → Nat → Nat → Prop
  | [], d, d1 => d = d1
  | (k, x) :: e, d, d1 =>
    if k = 0 then d < 15 ∧ 0 ≤ x ∧ dR e (d + 1) d1
    else if k = 1 then d < 15 ∧ 0 ≤ x ∧ x < 7 ∧ dR e (d + 1) d1
    else (k = 2 ∨ k = 3 ∨ k = 4 ∨ k = 5) ∧ 2 ≤ d ∧ dR e (d - 1) d1
theorem dR_O : ∀ (e : zEx) (d : Nat), dR e d 1 ↔ dO e d
  | [], d => Iff.rfl
  | (k, x) :: e, d => by
    rw [dR, dO, dR_O e (d + 1), dR_O e (d - 1)]
theorem dR_app : ∀ (e f : zEx) (a b c : Nat), dR e a b → dR f b c → dR (e ++ f) a c
  | [], f, a, b, c, h1, h2 => by
    obtain rfl : a = b := h1
    exact h2
  | (k, x) :: e, f, a, b, c, h1, h2 => by
    rw [List.cons_append, dR]
    rw [dR] at h1
    by_cases k0 : k = 0
    · rw [if_pos k0] at h1 ⊢
      exact ⟨h1.1, h1.2.1, dR_app e f _ _ _ h1.2.2 h2⟩
    rw [if_neg k0] at h1 ⊢
    by_cases k1 : k = 1
    · rw [if_pos k1] at h1 ⊢
      exact ⟨h1.1, h1.2.1, h1.2.2.1, dR_app e f _ _ _ h1.2.2.2 h2⟩
    · rw [if_neg k1] at h1 ⊢
      exact ⟨h1.1, h1.2.1, dR_app e f _ _ _ h1.2.2 h2⟩
/-- how many signs wait; how many may -/
def opsN : List Int32 → Nat
  | [] => 0
  | w :: s => opsN s + (if w = 6 then 0 else 1)
theorem opsN_c (w : Int32) (s : List Int32) : opsN (w :: s) = opsN s + (if w = 6 then 0 else 1) := rfl
theorem bondR_2 (k : Int32) : bondR k ≤ 2 := by
  unfold bondR
  by_cases a : k = 10 ∨ k = 15
  · rw [if_pos a]; exact Nat.le_refl _
  · rw [if_neg a]
    by_cases b : k = 8 ∨ k = 9
    · rw [if_pos b]; omega
    · rw [if_neg b]; omega
/-- the signs that wait: bonds grow within each ( ; the bond on top, and how many ( -/
def topB : List Int32 → Nat
  | [] => 0
  | w :: _ => bondR w
def wfS : List Int32 → Nat → Prop
  | [], op => op = 0
  | w :: s, op => if w = 6 then 0 < op ∧ wfS s (op - 1) else (w = 8 ∨ w = 9 ∨ w = 10 ∨ w = 15) ∧ topB s < bondR w ∧ wfS s op
theorem wfS_n : ∀ (s : List Int32) (op : Nat), wfS s op → opsN s ≤ 2 * op + topB s ∧ s.length = opsN s + op
  | [], op, h => by
    obtain rfl : op = 0 := h
    exact ⟨Nat.le_refl _, rfl⟩
  | w :: s, op, h => by
    unfold wfS at h
    unfold opsN
    by_cases c : w = 6
    · rw [if_pos c] at h
      obtain ⟨a, b⟩ := wfS_n s (op - 1) h.2
      have ht : topB s ≤ 2 := by
        cases s with
        | nil => exact Nat.zero_le _
        | cons y s => exact bondR_2 y
      rw [if_pos c]
      have t0 : topB (w :: s) = 0 := by rw [c]; rfl
      rw [t0, List.length_cons]
      omega
    · rw [if_neg c] at h
      obtain ⟨a, b⟩ := wfS_n s op h.2.2
      rw [if_neg c, List.length_cons]
      have := h.2.1
      have t0 : topB (w :: s) = bondR w := rfl
      rw [t0]
      omega
theorem topB_2 (s : List Int32) : topB s ≤ 2 := by
  cases s with
  | nil => exact Nat.zero_le _
  | cons y s => exact bondR_2 y
/-- what comes out -/
theorem popS_wf {lb : Nat} (hlb : 0 < lb) : ∀ (s : List Int32) (op : Nat), wfS s op → wfS (popS lb s).2 op ∧ topB (popS lb s).2 < lb ∧ (popS lb s).1.length + opsN (popS lb s).2 = opsN s ∧ dR (popS lb s).1 (opsN s + 1) (opsN (popS lb s).2 + 1) ∧ (popS lb s).2.length ≤ s.length
  | [], op, h => ⟨h, hlb, rfl, rfl, Nat.le_refl _⟩
  | w :: s, op, h => by
    unfold popS
    by_cases c : bondR w < lb
    · rw [if_pos c]
      exact ⟨h, c, by simp, rfl, Nat.le_refl _⟩
    · rw [if_neg c]
      have w6 : ¬ w = 6 := fun e => c (by rw [e]; exact hlb)
      unfold wfS at h
      rw [if_neg w6] at h
      obtain ⟨a, b, d, e, f⟩ := popS_wf hlb s op h.2.2
      have n1 : opsN (w :: s) = opsN s + 1 := by rw [opsN_c, if_neg w6]
      refine ⟨a, b, ?_, ?_, by rw [List.length_cons]; dsimp only; omega⟩
      · rw [n1]
        simp only [List.length_cons]
        omega
      · rw [n1]
        show dR ((opC w, 0) :: (popS lb s).1) (opsN s + 1 + 1) _
        have oc : opC w = 2 ∨ opC w = 3 ∨ opC w = 4 ∨ opC w = 5 := by
          rcases h.1 with rfl | rfl | rfl | rfl
          · exact Or.inl rfl
          · exact Or.inr (Or.inl rfl)
          · exact Or.inr (Or.inr (Or.inl rfl))
          · exact Or.inr (Or.inr (Or.inr rfl))
        have o0 : ¬ opC w = 0 := by rcases oc with q | q | q | q <;> rw [q] <;> decide
        have o1 : ¬ opC w = 1 := by rcases oc with q | q | q | q <;> rw [q] <;> decide
        rw [dR, if_neg o0, if_neg o1]
        exact ⟨oc, by omega, e⟩
/-- behind an E: its depth, and how long it is -/
theorem sumS_ok {K V : Nat → Int32} {c : Nat} (hV : ∀ i, i ≤ c → K i = 2 → 0 ≤ V i) (hK : ∀ i, i ≤ c → K i ≠ 0 → i < c ∨ i = 400) : ∀ (m t op : Nat) (stk : List Int32) (out : zEx) (due : Bool) (t1 : Nat) (e : zEx), t ≤ c → op ≤ 6 → wfS stk op → dR out 0 (opsN stk + if due = true then 0 else 1) → sumS K V m t op stk out due = .inr (t1, e) → dR e 0 1 ∧ t ≤ t1 ∧ t1 ≤ c ∧ e.length + t ≤ out.length + opsN stk + t1 ∧ (due = true → t < t1)
  | 0, t, op, stk, out, due, t1, e, _, _, _, _, h => by cases h
  | m + 1, t, op, stk, out, true, t1, e, ht, hop, hw, hd, h => by
    have wn := wfS_n stk op hw
    have tb := topB_2 stk
    unfold sumS at h
    rw [if_pos rfl, Nat.add_zero] at hd
    have go : ∀ {β : Type} {f : Nat → tF ⊕ β} {r : β}, K t ≠ 0 → sB (goS t) f = .inr r → t + 1 ≤ c ∧ f (t + 1) = .inr r := by
      intro β f r hk hh
      unfold sB goS at hh
      by_cases q : t = 400
      · rw [if_pos q] at hh
        cases hh
      · rw [if_neg q] at hh
        rcases hK t ht hk with a | a
        · exact ⟨a, hh⟩
        · exact absurd a q
    by_cases c1 : K t = 6
    · rw [if_pos c1] at h
      by_cases c2 : op = 6
      · rw [if_pos c2] at h
        cases h
      rw [if_neg c2] at h
      obtain ⟨g1, g2⟩ := go (by rw [c1]; decide) h
      have n6 : opsN (6 :: stk) = opsN stk := by rw [opsN_c, if_pos rfl]; omega
      obtain ⟨a, b, d, f, g⟩ := sumS_ok hV hK m (t + 1) (op + 1) (6 :: stk) out true t1 e g1 (by omega) (by unfold wfS; rw [if_pos rfl]; exact ⟨by omega, by rw [Nat.add_sub_cancel]; exact hw⟩) (by rw [n6, if_pos rfl]; exact hd) g2
      rw [n6] at f
      exact ⟨a, by omega, d, by omega, fun _ => by omega⟩
    rw [if_neg c1] at h
    by_cases c2 : K t = 2
    · rw [if_pos c2] at h
      obtain ⟨g1, g2⟩ := go (by rw [c2]; decide) h
      have nd : dR (out ++ [(0, V t)]) 0 (opsN stk + 1) := dR_app _ _ _ _ _ hd (by rw [dR, if_pos rfl]; exact ⟨by omega, hV t ht c2, rfl⟩)
      obtain ⟨a, b, d, f, g⟩ := sumS_ok hV hK m (t + 1) op stk _ false t1 e g1 hop hw (by rw [if_neg (by decide)]; exact nd) g2
      rw [List.length_append] at f
      simp only [List.length_singleton] at f
      exact ⟨a, by omega, d, by omega, fun _ => by omega⟩
    rw [if_neg c2] at h
    by_cases c3 : 33 ≤ K t ∧ K t ≤ 39
    · rw [if_pos c3] at h
      have k0 : K t ≠ 0 := fun q => by rw [q] at c3; exact absurd c3.1 (by decide)
      obtain ⟨g1, g2⟩ := go k0 h
      obtain ⟨j, hj, ej⟩ := nI_upto (x := K t) (e := 39) (fun q => absurd (Int32.lt_of_lt_of_le q (by decide : (0 : Int32) ≤ 33)) (fun z => Int32.lt_irrefl (Int32.lt_of_lt_of_le z c3.1))) c3.2 (by omega)
      have j33 : 33 ≤ j := by
        have := c3.1
        rw [ej, nI_lit 33, nI_leI (by omega) (by omega)] at this
        exact this
      have nd : dR (out ++ [(1, K t - 33)]) 0 (opsN stk + 1) := dR_app _ _ _ _ _ hd (by
        rw [dR, if_neg (by decide), if_pos rfl, ej, nI_lit 33, nI_sub j33]
        exact ⟨by omega, nI_pos' (by omega), by rw [nI_lit 7]; exact nI_lt (by omega) (by omega), rfl⟩)
      obtain ⟨a, b, d, f, g⟩ := sumS_ok hV hK m (t + 1) op stk _ false t1 e g1 hop hw (by rw [if_neg (by decide)]; exact nd) g2
      rw [List.length_append] at f
      simp only [List.length_singleton] at f
      exact ⟨a, by omega, d, by omega, fun _ => by omega⟩
    · rw [if_neg c3] at h
      cases h
  | m + 1, t, op, stk, out, false, t1, e, ht, hop, hw, hd, h => by
    unfold sumS at h
    rw [if_neg (by decide)] at hd
    have go : ∀ {β : Type} {f : Nat → tF ⊕ β} {r : β}, K t ≠ 0 → sB (goS t) f = .inr r → t + 1 ≤ c ∧ f (t + 1) = .inr r := by
      intro β f r hk hh
      unfold sB goS at hh
      by_cases q : t = 400
      · rw [if_pos q] at hh
        cases hh
      · rw [if_neg q] at hh
        rcases hK t ht hk with a | a
        · exact ⟨a, hh⟩
        · exact absurd a q
    obtain ⟨p1, p2, p3, p4, p5⟩ := popS_wf (lb := 1) (by omega) stk op hw
    by_cases c1 : K t = 7 ∧ 0 < op
    · rw [if_pos c1] at h
      obtain ⟨g1, g2⟩ := go (by rw [c1.1]; decide) h
      -- on top is a ( now
      have top : ∃ s, (popS 1 stk).2 = 6 :: s ∧ wfS s (op - 1) ∧ opsN s = opsN (popS 1 stk).2 := by
        revert p1 p2
        cases (popS 1 stk).2 with
        | nil => intro p1; exact absurd p1 (by show ¬ op = 0; omega)
        | cons w s =>
          intro p1 p2
          unfold wfS at p1
          by_cases w6 : w = 6
          · subst w6
            rw [if_pos rfl] at p1
            exact ⟨s, rfl, p1.2, by show _ = opsN s + _; rw [if_pos rfl]; omega⟩
          · rw [if_neg w6] at p1
            exfalso
            have : bondR w < 1 := p2
            rcases p1.1 with rfl | rfl | rfl | rfl <;> exact absurd this (by decide)
      obtain ⟨s, e1, e2, e3⟩ := top
      rw [e1, List.tail_cons] at g2
      obtain ⟨a, b, d, f, g⟩ := sumS_ok hV hK m (t + 1) (op - 1) s _ false t1 e g1 (by omega) e2 (by rw [if_neg (by decide), e3]; exact dR_app _ _ _ _ _ hd p4) g2
      rw [List.length_append, e3] at f
      exact ⟨a, by omega, d, by omega, fun q => absurd q (by decide)⟩
    rw [if_neg c1] at h
    by_cases c2 : 0 < bondR (K t)
    · rw [if_pos c2] at h
      have kk : K t = 8 ∨ K t = 9 ∨ K t = 10 ∨ K t = 15 := by
        unfold bondR at c2
        by_cases q : K t = 10 ∨ K t = 15
        · rcases q with q | q
          · exact Or.inr (Or.inr (Or.inl q))
          · exact Or.inr (Or.inr (Or.inr q))
        · rw [if_neg q] at c2
          by_cases q2 : K t = 8 ∨ K t = 9
          · rcases q2 with q2 | q2
            · exact Or.inl q2
            · exact Or.inr (Or.inl q2)
          · rw [if_neg q2] at c2
            exact absurd c2 (by omega)
      have k6 : ¬ K t = 6 := by rcases kk with q | q | q | q <;> rw [q] <;> decide
      obtain ⟨r1, r2, r3, r4, r5⟩ := popS_wf (lb := bondR (K t)) c2 stk op hw
      obtain ⟨g1, g2⟩ := go (by rcases kk with q | q | q | q <;> rw [q] <;> decide) h
      have n1 : opsN (K t :: (popS (bondR (K t)) stk).2) = opsN (popS (bondR (K t)) stk).2 + 1 := by rw [opsN_c, if_neg k6]
      obtain ⟨a, b, d, f, g⟩ := sumS_ok hV hK m (t + 1) op _ _ true t1 e g1 hop (by unfold wfS; rw [if_neg k6]; exact ⟨kk, r2, r1⟩) (by rw [if_pos rfl, n1]; exact dR_app _ _ _ _ _ hd r4) g2
      rw [List.length_append, n1] at f
      exact ⟨a, by omega, d, by omega, fun q => absurd q (by decide)⟩
    rw [if_neg c2] at h
    by_cases c3 : 0 < op
    · rw [if_pos c3] at h
      cases h
    · rw [if_neg c3] at h
      cases h
      have o0 : op = 0 := by omega
      subst o0
      have e0 : (popS 1 stk).2 = [] := by
        generalize (popS 1 stk).2 = z at p1 p2 ⊢
        cases z with
        | nil => rfl
        | cons w s =>
          exfalso
          unfold wfS at p1
          by_cases w6 : w = 6
          · rw [if_pos w6] at p1
            exact absurd p1.1 (by omega)
          · rw [if_neg w6] at p1
            have : bondR w < 1 := p2
            rcases p1.1 with rfl | rfl | rfl | rfl <;> exact absurd this (by decide)
      rw [e0] at p3 p4
      refine ⟨dR_app _ _ _ _ _ hd p4, Nat.le_refl _, ht, ?_, fun q => absurd q (by decide)⟩
      rw [List.length_append]
      have : opsN ([] : List Int32) = 0 := rfl
      omega

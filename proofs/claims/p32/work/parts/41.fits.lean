/-! ROWS THAT FIT: what is paid from a row, both sides */ -/
def baseF (n B k : Nat) (W : Nat → Int32) : Nat → Int32 := fun j => if j < n then nI (dig B k j) else if 10 ≤ j ∧ j < 10 + n then 0 else W j
def eq24 (n : Nat) (w w0 : Nat → Int32) : Prop := ∀ j, (j < n ∨ (10 ≤ j ∧ j < 10 + n) ∨ j = 41 ∨ j = 42) → w j = w0 j
theorem sh_congr {n : Nat} {w w0 : Nat → Int32} (h : eq24 n w w0) {k : Nat} (hk : k < n) : shF w k = shF w0 k := by
  unfold shF
  rw [h k (Or.inl hk), h (10 + k) (Or.inr (Or.inl ⟨by omega, by omega⟩))]
theorem want_congr {n : Nat} {ru : zRu} {w w0 : Nat → Int32} (h : eq24 n w w0) {k : Nat} (hk : k < n) : wantF n ru w k = wantF n ru w0 k := by
  have e : vF n (ruS ru) (ruD ru) w k = vF n (ruS ru) (ruD ru) w0 k := by
    funext j
    match j with
    | 0 => exact sh_congr h (leftF_lt hk)
    | 1 => exact sh_congr h (rightF_lt hk)
    | 2 => exact sh_congr h hk
    | 3 =>
      show gapF n (ruS ru) w k = gapF n (ruS ru) w0 k
      unfold gapF
      rw [sh_congr h (leftF_lt hk), sh_congr h (rightF_lt hk)]
    | 4 => exact h 42 (Or.inr (Or.inr (Or.inr rfl)))
    | 5 =>
      show lotF (ruD ru) (20 * w 42 + nI k) = lotF (ruD ru) (20 * w0 42 + nI k)
      rw [h 42 (Or.inr (Or.inr (Or.inr rfl)))]
    | j + 6 => exact h 41 (Or.inr (Or.inr (Or.inl rfl)))
  unfold wantF tellF
  rw [e, sh_congr h hk]
theorem pay_congr {n : Nat} (hn : n ≤ 10) {w w0 : Nat → Int32} (h : eq24 n w w0) {k : Nat} (hk : k < n) (x : Int32) : eq24 n (payF w k x) (payF w0 k x) := by
  intro j hj
  unfold payF
  rw [upd_n (by omega), upd_n (f := upd (upd (upd w0 k (w0 k - x)) 41 (w0 41 + x)) (20 + k) x) (by omega), upd_n (by omega), upd_n (f := upd (upd w0 k (w0 k - x)) 41 (w0 41 + x)) (by omega)]
  by_cases c : j = 41
  · subst c
    rw [upd_s, upd_s, h 41 hj]
  · rw [upd_n c, upd_n c]
    by_cases c2 : j = k
    · subst c2
      rw [upd_s, upd_s, h j hj]
    · rw [upd_n c2, upd_n c2, h j hj]
/-- the row ahead of the i-th house's paying; what it pays -/
def stF (n : Nat) (ru : zRu) (w : Nat → Int32) (i : Nat) : Nat → Int32 := if ruT ru = 0 then w else turnsS n ru 0 w i
def payW (n : Nat) (ru : zRu) (w : Nat → Int32) (i : Nat) : Int32 := wantF n ru (stF n ru w i) i
theorem onceS_end {n : Nat} {ru : zRu} {w : Nat → Int32} (hn : n ≤ 10) : ∀ k, k ≤ n → ∀ h, h < n → onceS n ru w k h = (if h < k then w h - wantF n ru w h else w h) ∧ (h < k → onceS n ru w k (20 + h) = wantF n ru w h)
  | 0, _, h, _ => ⟨by rw [if_neg (by omega)]; rfl, fun q => absurd q (by omega)⟩
  | k + 1, hk, h, hh => by
    obtain ⟨a, b⟩ := onceS_end (ru := ru) (w := w) hn k (by omega) h hh
    show payF (onceS n ru w k) k (wantF n ru w k) h = _ ∧ (h < k + 1 → payF (onceS n ru w k) k (wantF n ru w k) (20 + h) = _)
    by_cases e : h = k
    · subst e
      rw [if_neg (by omega)] at a
      unfold payF
      refine ⟨?_, fun _ => ?_⟩
      · rw [upd_n (by omega), upd_n (by omega), upd_n (by omega), upd_s, a, if_pos (by omega)]
      · rw [upd_n (by omega), upd_s]
    · rw [payF_n (by omega) (by omega) (by omega) (by omega), payF_n (by omega) (by omega) (by omega) (by omega)]
      refine ⟨?_, fun q => b (by omega)⟩
      rw [a]
      by_cases c : h < k
      · rw [if_pos c, if_pos (by omega)]
      · rw [if_neg c, if_neg (by omega)]
theorem turnsS_end {n : Nat} {ru : zRu} {w : Nat → Int32} (hn : n ≤ 10) : ∀ k, k ≤ n → ∀ h, h < n → turnsS n ru 0 w k h = (if h < k then w h - wantF n ru (turnsS n ru 0 w h) h else w h) ∧ (h < k → turnsS n ru 0 w k (20 + h) = wantF n ru (turnsS n ru 0 w h) h)
  | 0, _, h, _ => ⟨by rw [if_neg (by omega)]; rfl, fun q => absurd q (by omega)⟩
  | k + 1, hk, h, hh => by
    obtain ⟨a, b⟩ := turnsS_end (ru := ru) (w := w) hn k (by omega) h hh
    have e0 : turnsS n ru 0 w (k + 1) = payF (turnsS n ru 0 w k) k (wantF n ru (turnsS n ru 0 w k) k) := by
      show payF (turnsS n ru 0 w k) ((0 + k) % n) (wantF n ru (turnsS n ru 0 w k) ((0 + k) % n)) = _
      rw [Nat.zero_add, Nat.mod_eq_of_lt (by omega : k < n)]
    rw [e0]
    by_cases e : h = k
    · subst e
      rw [if_neg (by omega)] at a
      unfold payF
      refine ⟨?_, fun _ => ?_⟩
      · rw [upd_n (by omega), upd_n (by omega), upd_n (by omega), upd_s, a, if_pos (by omega)]
      · rw [upd_n (by omega), upd_s]
    · rw [payF_n (by omega) (by omega) (by omega) (by omega), payF_n (by omega) (by omega) (by omega) (by omega)]
      refine ⟨?_, fun q => b (by omega)⟩
      rw [a]
      by_cases c : h < k
      · rw [if_pos c, if_pos (by omega)]
      · rw [if_neg c, if_neg (by omega)]
theorem payAll_end {n : Nat} {ru : zRu} {w : Nat → Int32} (hn : n ≤ 10) {h : Nat} (hh : h < n) : payAllF n ru (ruT ru) 0 w h = w h - payW n ru w h ∧ payAllF n ru (ruT ru) 0 w (20 + h) = payW n ru w h := by
  unfold payAllF payW stF
  by_cases c : ruT ru = 0
  · rw [if_pos c, if_pos c]
    obtain ⟨a, b⟩ := onceS_end (ru := ru) (w := w) hn n (Nat.le_refl _) h hh
    rw [if_pos hh] at a
    exact ⟨a, b hh⟩
  · rw [if_neg c, if_neg c]
    obtain ⟨a, b⟩ := turnsS_end (ru := ru) (w := w) hn n (Nat.le_refl _) h hh
    rw [if_pos hh] at a
    exact ⟨a, b hh⟩
theorem none_iff {P : Nat → Bool} {m : Nat} : (seekF P m 0).isNone = true ↔ ∀ j, j < m → P j = false := by
  constructor
  · intro h j hj
    exact seekF_no _ _ (Option.isNone_iff_eq_none.mp h) j (by omega) (by omega)
  · intro h
    cases hs : seekF P m 0 with
    | none => rfl
    | some j =>
      obtain ⟨_, b, c⟩ := seekF_lt _ _ _ hs
      rw [h j (by omega)] at c
      exact absurd c (by decide)
def badB (kn pw : Nat → Int32) (i : Nat) : Bool := !(decide (kn i = -1)) && !(decide (kn i = pw i))
def fitB (n : Nat) (kn pw : Nat → Int32) : Bool := (seekF (badB kn pw) n 0).isNone
theorem badB_f {kn pw : Nat → Int32} {i : Nat} : badB kn pw i = false ↔ kn i = -1 ∨ kn i = pw i := by
  unfold badB
  by_cases a : kn i = -1
  · simp [a]
  · by_cases b : kn i = pw i
    · simp [b]
    · simp [a, b]
theorem fitB_t {n : Nat} {kn pw : Nat → Int32} : fitB n kn pw = true ↔ ∀ i, i < n → kn i = -1 ∨ kn i = pw i := by
  unfold fitB
  rw [none_iff]
  exact ⟨fun h i hi => badB_f.1 (h i hi), fun h i hi => badB_f.2 (h i hi)⟩
theorem RW.pur {M : zM} {r n j : Nat} {w : Nat → Int32} (h : RW M r n w) (hj : j < n) (v : Int32) : RW (zup M (r + 1) j v) r n (upd w j v) := by
  obtain ⟨q1, q2, q3, q4, q5, q6, q7⟩ := h
  refine ⟨q1, ?_, ?_, ?_, ?_, ?_, fun i hi => ?_⟩
  · rw [zup_a (by omega)]; exact q2
  · rw [upd_n (by omega)]; exact q3
  · rw [zup_a (by omega), upd_n (by omega)]; exact q4
  · rw [zup_a (by omega), upd_n (by omega)]; exact q5
  · rw [zup_a (by omega), upd_n (by omega)]; exact q6
  · obtain ⟨f1, f2, f3, f4⟩ := q7 i hi
    rw [zup_a (b := r + 2) (by omega), zup_a (b := r + 3) (by omega), zup_a (b := r + 4) (by omega), upd_n (j := 10 + i) (by omega), upd_n (j := 20 + i) (by omega), upd_n (j := 30 + i) (by omega)]
    refine ⟨?_, f2, f3, f4⟩
    by_cases e : i = j
    · subst e
      rw [upd_s]
      exact zup_same
    · rw [upd_n e]
      exact (zup_k e).trans f1
section TRY
variable {R : zR} {M : zM} {ru : zRu} {q l n T S u x : Nat}
theorem X10_pays (h : zSt R M ru q l n T S u x) {w : Nat → Int32} {B k L : Nat} (hw : RW M 213 n w) (h0 : ∀ i, i < n → w (10 + i) = 0) (h41 : w 41 = rowF M 41) (h42 : w 42 = rowF M 42) (hrow : ∀ i, i < n → M 212 i = nI (dig B k i)) {kn : Nat → Int32} (hkn : ∀ i, i < n → M 210 i = kn i) (hL : L ≤ n) (hla : ∀ i, i ≤ 10 → (M 207 7 < nI i ↔ L ≤ i)) (hno : ∀ i, i < n → L ≤ i → kn i = -1) :
    zT (f_X10_paysAsKnown R M 207 q) (fun p => p.1 = (if fitB n kn (payW n ru (baseF n B k (rowF M))) = true then 1 else 0) ∧ (∃ w', RW p.2 213 n w' ∧ (∀ i, i < n → w' (10 + i) = 0) ∧ w' 42 = rowF M 42) ∧ zag zst M p.2) := by
  have hn := h.n10
  have hq := h.qq
  obtain ⟨_, _, _, _, _, _, _, _, t0, t1, t2, t3, t4, t5, t6⟩ := h.rt
  have ht : zTr 213 := by unfold zTr; omega
  unfold f_X10_paysAsKnown
  refine zT_bd ?_
  refine zT_w (Q := fun M1 : zM => RW M1 213 n (fun j => if j < n then nI (dig B k j) else w j) ∧ zag (fun b _ => b = 214) M M1) (zT_for n (fun i v => v.1 = nI i ∧ RW v.2 213 n (fun j => if j < i then nI (dig B k j) else w j) ∧ zag (fun b _ => b = 214) M v.2) ⟨rfl, ?_, zag.rf⟩ (by omega) ?_ ?_) ?_
  · show RW M 213 n (fun j => if j < 0 then nI (dig B k j) else w j)
    have e : (fun j => if j < 0 then nI (dig B k j) else w j) = w := by funext j; rw [if_neg (by omega)]
    rw [e]
    exact hw
  · rintro i ⟨y, M1⟩ hi ⟨rfl, w1, g1⟩
    simp only at w1 g1 ⊢
    unfold b_X10_paysAsKnown_2
    rw [t4, t5, t6.1]
    have hz := zin_nI (k := i) (n := 10) (by omega) (by omega)
    refine zT_if0 (by rw [nI_lit 10]; exact nI_ge (by omega) (by omega)) (zT_bd (zT_eq (hz_yes w1 hi) (zT_if0 (by decide) (zT_ck hz (zT_ck hz (zT_lt (zT_some ⟨nI_1 _, ?_, g1.up rfl⟩)))))))
    rw [ztn_nI (by omega), g1 212 i (by omega), hrow i hi]
    have := w1.pur hi (nI (dig B k i))
    have e : upd (fun j => if j < i then nI (dig B k j) else w j) i (nI (dig B k i)) = fun j => if j < i + 1 then nI (dig B k j) else w j := by
      funext j
      by_cases c : j = i
      · subst c
        rw [upd_s, if_pos (by omega)]
      · rw [upd_n c]
        by_cases c2 : j < i
        · rw [if_pos c2, if_pos (by omega)]
        · rw [if_neg c2, if_neg (by omega)]
    rw [e] at this
    exact this
  · rintro ⟨y, M1⟩ ⟨rfl, w1, g1⟩
    simp only at w1 g1 ⊢
    unfold b_X10_paysAsKnown_2
    rw [t5]
    exact zT_if (fun _ => zT_some ⟨w1, g1⟩) (fun _ => zT_bd (zT_eq (hz_end w1) (zT_if1 rfl (zT_some ⟨w1, g1⟩))))
  rintro M1 ⟨w1, g1⟩
  have g1s : zag zst M M1 := g1.mo (fun b k e => by unfold zst; omega)
  obtain ⟨base, hbase⟩ : ∃ b, b = baseF n B k (rowF M) := ⟨_, rfl⟩
  rw [← hbase]
  have e1 : eq24 n (fun j => if j < n then nI (dig B k j) else w j) base := by
    intro j hj
    rw [hbase]
    unfold baseF
    dsimp only
    by_cases c : j < n
    · rw [if_pos c, if_pos c]
    · rw [if_neg c, if_neg c]
      by_cases c2 : 10 ≤ j ∧ j < 10 + n
      · rw [if_pos c2]
        have := h0 (j - 10) (by omega)
        rw [show 10 + (j - 10) = j by omega] at this
        exact this
      · rw [if_neg c2]
        rcases hj with c3 | c3 | rfl | rfl
        · exact absurd c3 c
        · exact absurd c3 c2
        · exact h41
        · exact h42
  have st1 : ∀ i, i < n → ∀ w' : Nat → Int32, eq24 n w' (stF n ru base i) → wantF n ru w' i = payW n ru base i := fun i hi w' hw' => want_congr hw' hi
  have stS : ∀ i, i < n → ∀ w' : Nat → Int32, ruT ru ≠ 0 → eq24 n w' (stF n ru base i) → eq24 n (payF w' i (payW n ru base i)) (stF n ru base (i + 1)) := fun i hi w' hne hw' => by
    have e : stF n ru base (i + 1) = payF (stF n ru base i) i (payW n ru base i) := by
      unfold payW stF
      rw [if_neg hne, if_neg hne]
      show payF (turnsS n ru 0 base i) ((0 + i) % n) (wantF n ru (turnsS n ru 0 base i) ((0 + i) % n)) = _
      rw [Nat.zero_add, Nat.mod_eq_of_lt hi]
    rw [e]
    exact pay_congr hn hw' hi _
  have stZ : ruT ru = 0 → ∀ i, stF n ru base (i + 1) = stF n ru base i := fun c i => by
    unfold stF
    rw [if_pos c, if_pos c]
  have s0 : stF n ru base 0 = base := by
    unfold stF
    split <;> rfl
  have base0 : ∀ w' i, eq24 n w' (stF n ru base i) → i ≤ n → (∀ j, j < n → w' (10 + j) = 0) ∧ w' 42 = rowF M 42 := by
    intro w' i he hi
    have sk : ∀ j, (10 ≤ j ∧ j < 20) ∨ j = 42 → stF n ru base i j = base j := fun j hj => by
      unfold stF
      split
      · rfl
      · clear he
        induction i with
        | zero => rfl
        | succ i ih =>
          show payF (turnsS n ru 0 base i) ((0 + i) % n) (wantF n ru (turnsS n ru 0 base i) ((0 + i) % n)) j = _
          rw [Nat.zero_add, Nat.mod_eq_of_lt (by omega : i < n), payF_n (by omega) (by omega) (by omega) (by omega)]
          exact ih (by omega)
    refine ⟨fun j hj => ?_, ?_⟩
    · rw [he (10 + j) (Or.inr (Or.inl ⟨by omega, by omega⟩)), sk _ (by omega), hbase]
      unfold baseF
      rw [if_neg (by omega), if_pos (by omega)]
    · rw [he 42 (by omega), sk _ (by omega), hbase]
      unfold baseF
      rw [if_neg (by omega), if_neg (by omega)]
  refine zT_bd ?_
  refine zT_seek L (badB kn (payW n ru base)) (fun i v => v.1 = nI i ∧ (∃ w', RW v.2 213 n w' ∧ eq24 n w' (stF n ru base i)) ∧ zag zst M v.2) ⟨rfl, ⟨_, w1, by rw [s0]; exact e1⟩, g1s⟩ (by omega) ?_ ?_ ?_
  · rintro i ⟨y, M2⟩ hi ⟨rfl, ⟨w2, r2, q2⟩, g2⟩ hp
    simp only at r2 g2 ⊢
    have h2 := h.sc (zst.sc g2)
    have c7 : M2 207 7 = M 207 7 := g2 _ _ (by unfold zst; omega)
    have ck : M2 210 i = kn i := by rw [g2 210 i (by unfold zst; omega)]; exact hkn i (by omega)
    have m7 : M2 q 7 = ruT ru := h2.cr.2.2.2.2.2.1
    have hz := zin_nI (k := i) (n := 10) (by omega) (by omega)
    rw [badB_f] at hp
    unfold b_X10_paysAsKnown_42
    rw [c7, t5, t2, ztn_nI (by omega), ck, m7]
    have go : zT (j_X10_paysAsKnown_87 R M2 207 q (nI i)) (Sum.elim (fun v1 => v1.1 = nI (i + 1) ∧ (∃ w', RW v1.2 213 n w' ∧ eq24 n w' (stF n ru base (i + 1))) ∧ zag zst M v1.2) (fun _ => False)) := by
      unfold j_X10_paysAsKnown_87
      rw [t5, t2]
      refine zT_bd2 (zT_w (h2.wantC t6 ht r2 (by omega)) ?_)
      rintro ⟨r, M3⟩ ⟨e3, r3, g3, f3⟩
      simp only at e3 r3 g3 ⊢
      rw [st1 i (by omega) w2 q2] at e3
      have ck3 : M3 210 (ztn (nI i)) = kn i := by rw [ztn_nI (by omega), g3 210 i (by unfold zst; omega)]; exact ck
      have fin : zT (j_X10_paysAsKnown_119 R M3 207 q (nI i) r) (Sum.elim (fun v1 => v1.1 = nI (i + 1) ∧ (∃ w', RW v1.2 213 n w' ∧ eq24 n w' (stF n ru base (i + 1))) ∧ zag zst M v1.2) (fun _ => False)) := by
        unfold j_X10_paysAsKnown_119
        rw [t5, show M3 q 7 = ruT ru from (h2.sc (zst.sc g3)).cr.2.2.2.2.2.1]
        refine zT_if (fun c => zT_some ⟨nI_1 _, ⟨w2, r3, by rw [stZ c]; exact q2⟩, g2.tr g3⟩) (fun c => zT_bd (zT_w (X6_pay t6 r3 (by omega) _) ?_))
        rintro M4 ⟨r4, g4⟩
        rw [e3] at r4
        exact zT_some ⟨nI_1 _, ⟨_, r4, stS i (by omega) w2 c q2⟩, (g2.tr g3).tr (zblk.st ht g4)⟩
      rw [ck3]
      refine zT_ck hz (zT_if (fun _ => fin) (fun c => zT_ck hz (zT_if1 ?_ fin)))
      rw [e3]
      exact (hp.resolve_left c).symm
    refine zT_if0 (fun c => by rw [hla i (by omega)] at c; omega) (zT_if0 (by rw [nI_lit 10]; exact nI_ge (by omega) (by omega)) (zT_bd (zT_eq (hz_yes r2 (by omega)) (zT_if0 (by decide) (zT_ck hz (zT_if (fun c => zT_if (fun c2 => zT_some ⟨nI_1 _, ⟨w2, r2, by rw [stZ c2]; exact q2⟩, g2⟩) (fun _ => go)) (fun _ => go)))))))
  · rintro i ⟨y, M2⟩ hi ⟨rfl, ⟨w2, r2, q2⟩, g2⟩ hp hs
    simp only at r2 g2 ⊢
    have h2 := h.sc (zst.sc g2)
    have c7 : M2 207 7 = M 207 7 := g2 _ _ (by unfold zst; omega)
    have ck : M2 210 i = kn i := by rw [g2 210 i (by unfold zst; omega)]; exact hkn i (by omega)
    have hz := zin_nI (k := i) (n := 10) (by omega) (by omega)
    have hb : ¬ (kn i = -1 ∨ kn i = payW n ru base i) := fun c => by rw [badB_f.2 c] at hp; exact absurd hp (by decide)
    have nf : ¬ fitB n kn (payW n ru base) = true := fun c => hb (fitB_t.1 c i (by omega))
    unfold b_X10_paysAsKnown_42
    rw [c7, t5, t2, ztn_nI (by omega), ck]
    refine zT_if0 (fun c => by rw [hla i (by omega)] at c; omega) (zT_if0 (by rw [nI_lit 10]; exact nI_ge (by omega) (by omega)) (zT_bd (zT_eq (hz_yes r2 (by omega)) (zT_if0 (by decide) (zT_ck hz (zT_if0 (fun c => hb (Or.inl c)) ?_))))))
    unfold j_X10_paysAsKnown_87
    rw [t5, t2]
    refine zT_bd2 (zT_w (h2.wantC t6 ht r2 (by omega)) ?_)
    rintro ⟨r, M3⟩ ⟨e3, r3, g3, f3⟩
    simp only at e3 r3 g3 ⊢
    rw [st1 i (by omega) w2 q2] at e3
    have ck3 : M3 210 (ztn (nI i)) = kn i := by rw [ztn_nI (by omega), g3 210 i (by unfold zst; omega)]; exact ck
    rw [ck3]
    refine zT_ck hz (zT_if0 (fun c => hb (Or.inl c)) (zT_ck hz (zT_if0 (fun c => hb (Or.inr (by rw [← e3]; exact c.symm))) (zT_some (zT_some ⟨?_, ⟨w2, r3, base0 w2 i q2 (by omega)⟩, g2.tr g3⟩)))))
    rw [if_neg nf]
  · rintro ⟨y, M2⟩ ⟨rfl, ⟨w2, r2, q2⟩, g2⟩ hs
    simp only at r2 g2 ⊢
    have c7 : M2 207 7 = M 207 7 := g2 _ _ (by unfold zst; omega)
    have tf : fitB n kn (payW n ru base) = true := by
      rw [fitB_t]
      intro i hi
      by_cases c : i < L
      · exact badB_f.1 (seekF_no _ _ hs i (by omega) (by omega))
      · exact Or.inl (hno i hi (by omega))
    unfold b_X10_paysAsKnown_42
    rw [c7]
    refine zT_if1 ((hla L (by omega)).2 (Nat.le_refl _)) (zT_some (zT_some ⟨?_, ⟨w2, r2, base0 w2 L q2 hL⟩, g2⟩))
    rw [if_pos tf]
end TRY

/-! READ, on the reference's side: the cut -/
theorem tokS_bd {B : Nat → Nat} {i : Nat} (hbd : ¬ (kB (B i) = (tokS B i).1 ∧ (kB (B i) = 2 ∨ kB (B i) = 3))) : ∀ k, ∃ r, (tokS B (i + k)).2 = (tokS B i).2 ++ r ∧ (r = [] → k = 0 ∨ (tokS B (i + k)).1 = 4)
  | 0 => ⟨[], (List.append_nil _).symm, fun _ => Or.inl rfl⟩
  | k + 1 => by
    obtain ⟨r, h1, h2⟩ := tokS_bd hbd k
    rw [← Nat.add_assoc, tokS_s]
    by_cases c1 : kB (B (i + k)) = 4
    · rw [if_pos c1]
      exact ⟨r, h1, fun _ => Or.inr rfl⟩
    rw [if_neg c1]
    by_cases c2 : kB (B (i + k)) = (tokS B (i + k)).1 ∧ (kB (B (i + k)) = 2 ∨ kB (B (i + k)) = 3)
    · rw [if_pos c2]
      by_cases r0 : r = []
      · exfalso
        rcases h2 r0 with z | z
        · subst z
          exact hbd c2
        · exact c1 (c2.1.trans z)
      · exact ⟨addL r (B (i + k)), by dsimp only; rw [h1, addL_pre _ _ _ r0], fun z => absurd z (addL_ne r0)⟩
    · rw [if_neg c2]
      exact ⟨r ++ [(i + k, [B (i + k)])], by dsimp only; rw [h1, List.append_assoc], fun z => absurd z (by simp)⟩
def cuA : Nat → Nat → Prop := fun b k => (b = 242 ∧ k = 10) ∨ b = 245 ∨ b = 246 ∨ b = 247
def cuS (B : Nat → Nat) (M0 : zM) (L0 : zL) (ts : List zTok) (M : zM) (L : zL) : Prop := M 242 10 = nI ts.length ∧ (∀ j, j < ts.length → tkY M L j (ts.getD j z0T)) ∧ zag cuA M0 M ∧ ∀ b j, b ≠ 248 → L b j = L0 b j
def cuI (B : Nat → Nat) (n : Nat) (M0 : zM) (L0 : zL) (m : Nat) (v : Int32 × zM × zL) : Prop := ∃ i, m = n - i ∧ i ≤ n ∧ v.1 = nI i ∧ (i < n → ¬ (kB (B i) = (tokS B i).1 ∧ (kB (B i) = 2 ∨ kB (B i) = 3))) ∧ (tokS B i).2.length ≤ 401 ∧ cuS B M0 L0 (tokS B i).2 v.2.1 v.2.2
def cuQ (B : Nat → Nat) (n : Nat) (M0 : zM) (L0 : zL) : (zM × zL) ⊕ (zM × zL) → Prop
  | .inl e => (tsN B n).length ≤ 400 ∧ cuS B M0 L0 (tsN B n) e.1 e.2
  | .inr e => 401 ≤ (tsN B n).length ∧ (∀ j, j < 401 → tkY e.1 e.2 j ((tsN B n).getD j z0T)) ∧ zag cuA M0 e.1 ∧ ∀ b j, b ≠ 248 → e.2 b j = L0 b j
theorem tkY.eq {M M1 : zM} {L L1 : zL} {j : Nat} {t : zTok} (h : tkY M L j t) (h5 : M1 245 j = M 245 j) (h6 : M1 246 j = M 246 j) (h7 : M1 247 j = M 247 j) (h8 : L1 248 j = L 248 j) : tkY M1 L1 j t := ⟨h5.trans h.1, h6.trans h.2.1, fun z => h7.trans (h.2.2.1 z), fun z => h8.trans (h.2.2.2 z)⟩
section REF
variable {R : zR} {M M1 M0 : zM} {L L1 L0 : zL} {B : Nat → Nat} {n i : Nat}
/-- one more token -/
theorem cuS.tok (hR : zMd R) {ts : List zTok} (h : cuS B M0 L0 ts M L) (h4 : ts.length ≤ 400) (t : zTok) (v : Int32) (y : Int64) (hv : kT t.2 = 2 → v = vT t.2) (hy : kT t.2 = 1 → y = e27 t.2) : zT (f_X12_token R M L 242 (kT t.2) (nI t.1) v y) (fun p => cuS B M0 L0 (ts ++ [t]) p.1 p.2) := by
  obtain ⟨h1, h2, h3, h5⟩ := h
  refine zT_w (X12_token hR h1 (by omega) (kT t.2) (nI t.1) v y) ?_
  rintro ⟨M1, L1⟩ ⟨a1, a2, a3, a4, a5, g, gL⟩
  dsimp only at a1 a2 a3 a4 a5 g gL ⊢
  refine ⟨by rw [List.length_append]; exact a1, fun j hj => ?_, h3.tr (g.mo (fun b k q => by unfold cuA; omega)), fun b j hb => (gL b j (by omega)).trans (h5 b j hb)⟩
  rw [List.length_append, List.length_singleton] at hj
  by_cases e : j = ts.length
  · subst e
    rw [gT_e]
    exact ⟨a2, a3, fun z => a4.trans (hv z), fun z => a5.trans (hy z)⟩
  · rw [gT_l (by omega)]
    exact (h2 j (by omega)).eq (g _ _ (by omega)) (g _ _ (by omega)) (g _ _ (by omega)) (gL _ _ (by omega))
theorem X12_step (hR : zMd R) (hw : wdOkR L0) (hb : btR M0 B n) (hB : ∀ j, B j < 256) {m : Nat} {v : Int32 × zM × zL} (h : cuI B n M0 L0 m v) : zT (b_X12_cut_7 R v.2.1 v.2.2 242 v.1) (Sum.elim (fun v1 => ∃ k1, k1 < m ∧ cuI B n M0 L0 k1 v1) (cuQ B n M0 L0)) := by
  obtain ⟨v1, M, L⟩ := v
  obtain ⟨i, rfl, hin, rfl, hbd, hlen, hS⟩ := h
  dsimp only at hS ⊢
  have hS0 := hS
  obtain ⟨h1, h2, h3, h5⟩ := hS
  have n2 := hb.1
  have hbM : btR M B n := ⟨n2, by rw [h3 242 4 (by unfold cuA; omega)]; exact hb.2.1, fun j hj => by rw [h3 244 j (by unfold cuA; omega)]; exact hb.2.2 j hj⟩
  have hwM : wdOkR L := fun k hk => by rw [h5 249 k (by omega)]; exact hw k hk
  unfold b_X12_cut_7
  rw [h1]
  by_cases c401 : (tokS B i).2.length = 401
  · refine zT_if1 (by rw [c401]; decide) (zT_some ?_)
    have key : ∃ r, (tokS B n).2 = (tokS B i).2 ++ r := by
      by_cases e : i = n
      · subst e
        exact ⟨[], (List.append_nil _).symm⟩
      · obtain ⟨r, hr, _⟩ := tokS_bd (hbd (by omega)) (n - i)
        rw [show i + (n - i) = n by omega] at hr
        exact ⟨r, hr⟩
    obtain ⟨r, hr⟩ := key
    have hr2 : tsN B n = (tokS B i).2 ++ r := hr
    refine ⟨by rw [hr2, List.length_append]; omega, fun j hj => ?_, h3, h5⟩
    rw [hr2, gT_l (by omega)]
    exact h2 j (by omega)
  refine zT_if0 (by rw [nI_lit 400]; exact nI_nlt (by omega) (by omega)) (zT_bd (zT_eq (X12_byte hR hbM (by omega)) ?_))
  rw [hbM.2.1]
  by_cases cn : i < n
  case neg =>
    have e : i = n := by omega
    subst e
    exact zT_if0 (nI_nlt (Nat.le_refl _) (by omega)) (zT_some ⟨by show (tokS B i).2.length ≤ 400; omega, hS0⟩)
  rw [if_pos cn]
  refine zT_if1 (nI_lt cn (by omega)) ?_
  have hbd := hbd cn
  obtain ⟨k2, k3, k4⟩ := kB_2 (hB i)
  have blank : (B i = 9 ∨ B i = 10 ∨ B i = 13 ∨ B i = 32) → zT (some (Sum.inl (nI i + 1, M, L)) : Option ((Int32 × zM × zL) ⊕ ((zM × zL) ⊕ (zM × zL)))) (Sum.elim (fun v1 => ∃ k1, k1 < n - i ∧ cuI B n M0 L0 k1 v1) (cuQ B n M0 L0)) := fun hq => by
    have e : tokS B (i + 1) = (4, (tokS B i).2) := by rw [tokS_s, if_pos (k4.2 hq)]
    refine zT_some ⟨n - (i + 1), by omega, i + 1, rfl, by omega, nI_1 i, fun _ => ?_, by rw [e]; exact hlen, by rw [e]; exact hS0⟩
    rw [e]
    rintro ⟨q1, q2⟩
    have q1 : kB (B (i + 1)) = 4 := q1
    rw [q1] at q2
    exact n423 q2
  have ne : ∀ k : Nat, k < 256 → ¬ B i = k → ¬ nI (B i) = nI k := fun k hk hn z => hn (nI_inj (by have := hB i; omega) (by omega) z)
  by_cases b9 : B i = 9
  · exact zT_if1 (by rw [b9]; rfl) (blank (Or.inl b9))
  refine zT_if0 (ne 9 (by omega) b9) ?_
  by_cases b10 : B i = 10
  · exact zT_if1 (by rw [b10]; rfl) (blank (Or.inr (Or.inl b10)))
  refine zT_if0 (ne 10 (by omega) b10) ?_
  by_cases b13 : B i = 13
  · exact zT_if1 (by rw [b13]; rfl) (blank (Or.inr (Or.inr (Or.inl b13))))
  refine zT_if0 (ne 13 (by omega) b13) ?_
  by_cases b32 : B i = 32
  · exact zT_if1 (by rw [b32]; rfl) (blank (Or.inr (Or.inr (Or.inr b32))))
  refine zT_if0 (ne 32 (by omega) b32) ?_
  have n4 : ¬ kB (B i) = 4 := fun z => by
    rcases k4.1 z with q | q | q | q
    · exact b9 q
    · exact b10 q
    · exact b13 q
    · exact b32 q
  -- behind a token
  have nxt : ∀ {r : Nat} {pv : Int32} {l : List Nat} {M1 : zM} {L1 : zL}, 0 < r → i + r ≤ n → tokS B (i + r) = (pv, (tokS B i).2 ++ [(i, l)]) → (i + r < n → ¬ (kB (B (i + r)) = pv ∧ (kB (B (i + r)) = 2 ∨ kB (B (i + r)) = 3))) → cuS B M0 L0 ((tokS B i).2 ++ [(i, l)]) M1 L1 → ∃ k1, k1 < n - i ∧ cuI B n M0 L0 k1 (nI i + nI r, M1, L1) := fun {r pv l M1 L1} hr hrn e hb2 hc => by
    refine ⟨n - (i + r), by omega, i + r, rfl, hrn, nI_add _ _, fun z => by rw [e]; exact hb2 z, by rw [e, List.length_append, List.length_singleton]; omega, by rw [e]; exact hc⟩
  refine zT_bd (zT_eq (X12_isL (hB i)) ?_)
  by_cases cl : isL (B i)
  · rw [if_pos cl]
    refine zT_if0 (by decide) (zT_bd (zT_w (X12_letters hR hbM hB cn) ?_))
    rintro ⟨y1, y2⟩ ⟨r, r1, r2, r3, e1, e2⟩
    dsimp only at e1 e2
    subst e1 e2
    have r0 : 0 < r := by
      rcases Nat.eq_zero_or_pos r with z | z
      · subst z
        exact absurd cl (r3 (by omega))
      · exact z
    obtain ⟨q, rfl⟩ : ∃ q, r = q + 1 := ⟨r - 1, by omega⟩
    have run := tokS_run (kd := 2) (Or.inl rfl) hbd q (fun j hj => (kB_2 (hB _)).1.2 (r2 j hj))
    have sl := seg_len B i (q + 1)
    have sa : ∀ x, x ∈ seg B i (q + 1) → isL x := seg_all (p := fun x => isL x) (q + 1) r2
    have s0 : seg B i (q + 1) ≠ [] := by
      intro z
      rw [z] at sl
      cases sl
    obtain ⟨x, l', es⟩ : ∃ x l', seg B i (q + 1) = x :: l' := by
      cases hh : seg B i (q + 1) with
      | nil => exact absurd hh s0
      | cons x l' => exact ⟨x, l', rfl⟩
    have bd2 : i + (q + 1) < n → ¬ (kB (B (i + (q + 1))) = 2 ∧ (kB (B (i + (q + 1))) = 2 ∨ kB (B (i + (q + 1))) = 3)) := fun z w => r3 z ((kB_2 (hB _)).1.1 w.1)
    have fin : ∀ s, s = kT (seg B i (q + 1)) → zT (j_X12_cut_179 R M L 242 (nI i) (nI (q + 1)) (e27 ((seg B i (q + 1)).take 8)) s) (Sum.elim (fun v1 => ∃ k1, k1 < n - i ∧ cuI B n M0 L0 k1 v1) (cuQ B n M0 L0)) := fun s hs => by
      unfold j_X12_cut_179
      rw [hs]
      refine zT_bd2 (zT_w (cuS.tok hR hS0 (by omega) (i, seg B i (q + 1)) 0 _ (fun z => ?_) (fun z => ?_)) ?_)
      · obtain ⟨x2, l2, w1, w2, _⟩ := (kT_f _).2.2 z
        dsimp only at w1
        have := sa x2 (by rw [w1]; simp)
        exfalso
        have z1 := this.1
        have z2 := w2.2
        omega
      · obtain ⟨x2, l2, w1, w2, w3⟩ := (kT_f _).2.1 z
        rw [List.take_of_length_le w3]
      · rintro ⟨M1, L1⟩ hc
        exact zT_some (nxt (by omega) r1 run bd2 hc)
    have kx : isL x := sa x (by rw [es]; simp)
    unfold j_X12_cut_135
    by_cases c8 : q + 1 ≤ 8
    · refine zT_if1 (by rw [nI_lit 8]; exact nI_le c8 (by omega)) ?_
      by_cases c7 : q + 1 ≤ 7
      · refine zT_if0 (by rw [nI_lit 7]; exact nI_nlt c7 (by omega)) (zT_bd ?_)
        rw [List.take_of_length_le (by omega : (seg B i (q + 1)).length ≤ 8)]
        refine zT_w (X12_key hR hwM s0 sa (by omega) (nI i) (nI (q + 1))) ?_
        intro e he
        have := fin e he
        rw [List.take_of_length_le (by omega : (seg B i (q + 1)).length ≤ 8)] at this
        exact this
      · refine zT_if1 (by rw [nI_lit 7]; exact nI_lt (by omega) (by omega)) (fin 1 ?_)
        have hno : wIx wdR (seg B i (q + 1)) = none := wIx_noneR (fun k hk z => by
          have := (wdR_k hk).2.1
          rw [z] at this
          omega)
        rw [es] at hno sl ⊢
        unfold kT
        dsimp only
        rw [if_pos kx, if_pos (by omega), hno]
    · refine zT_if0 (by rw [nI_lit 8]; exact nI_ge (by omega) (by omega)) (zT_if1 (by rw [nI_lit 7]; exact nI_lt (by omega) (by omega)) (fin 3 ?_))
      rw [es] at sl ⊢
      unfold kT
      dsimp only
      rw [if_pos kx, if_neg (by omega)]
  rw [if_neg cl]
  refine zT_if1 rfl (zT_bd (zT_eq (X12_isD2 (hB i)) ?_))
  by_cases cd : isD (B i)
  · rw [if_pos cd]
    refine zT_if0 (by decide) (zT_bd (zT_w (X12_digits hR hbM hB cn) ?_))
    rintro ⟨y1, y2⟩ ⟨r, r1, r2, r3, e1, e2⟩
    dsimp only at e1 e2
    subst e1 e2
    have r0 : 0 < r := by
      rcases Nat.eq_zero_or_pos r with z | z
      · subst z
        exact absurd cd (r3 (by omega))
      · exact z
    obtain ⟨q, rfl⟩ : ∃ q, r = q + 1 := ⟨r - 1, by omega⟩
    have run := tokS_run (kd := 3) (Or.inr rfl) hbd q (fun j hj => (kB_2 (hB _)).2.1.2 (r2 j hj))
    have sl := seg_len B i (q + 1)
    have sa : ∀ x, x ∈ seg B i (q + 1) → isD x := seg_all (p := fun x => isD x) (q + 1) r2
    obtain ⟨x, l', es⟩ : ∃ x l', seg B i (q + 1) = x :: l' := by
      cases hh : seg B i (q + 1) with
      | nil => rw [hh] at sl; cases sl
      | cons x l' => exact ⟨x, l', rfl⟩
    have kx : isD x := sa x (by rw [es]; simp)
    have nl : ¬ isL x := fun z => by
      have := z.1
      have := kx.2
      omega
    have bd2 : i + (q + 1) < n → ¬ (kB (B (i + (q + 1))) = 3 ∧ (kB (B (i + (q + 1))) = 2 ∨ kB (B (i + (q + 1))) = 3)) := fun z w => r3 z ((kB_2 (hB _)).2.1.1 w.1)
    have fin : ∀ s, s = kT (seg B i (q + 1)) → zT (j_X12_cut_261 R M L 242 (nI i) (nI (q + 1)) (nI (vd ((seg B i (q + 1)).take 4))) 242 s) (Sum.elim (fun v1 => ∃ k1, k1 < n - i ∧ cuI B n M0 L0 k1 v1) (cuQ B n M0 L0)) := fun s hs => by
      unfold j_X12_cut_261
      rw [hs]
      refine zT_bd2 (zT_w (cuS.tok hR hS0 (by omega) (i, seg B i (q + 1)) _ _ (fun z => ?_) (fun z => ?_)) ?_)
      · have d4 := d10_4 (l := (seg B i (q + 1)).take 4) (by rw [List.length_take]; omega) (fun y hy => sa y (List.mem_of_mem_take hy))
        rw [← d4.1]
        show _ = vT (seg B i (q + 1))
        rw [es]
        unfold vT
        dsimp only
        rw [if_pos kx]
      · obtain ⟨x2, l2, w1, w2, w3⟩ := (kT_f _).2.1 z
        dsimp only at w1
        have := sa x2 (by rw [w1]; simp)
        exfalso
        have z1 := this.2
        have z2 := w2.1
        omega
      · rintro ⟨M1, L1⟩ hc
        exact zT_some (nxt (by omega) r1 run bd2 hc)
    by_cases c4 : q + 1 ≤ 4
    · refine zT_if1 (by rw [nI_lit 4]; exact nI_le c4 (by omega)) (fin 2 ?_)
      rw [es] at sl ⊢
      unfold kT
      dsimp only
      rw [if_neg nl, if_pos kx, if_pos (by omega)]
    · refine zT_if0 (by rw [nI_lit 4]; exact nI_ge (by omega) (by omega)) (fin 3 ?_)
      rw [es] at sl ⊢
      unfold kT
      dsimp only
      rw [if_neg nl, if_pos kx, if_neg (by omega)]
  rw [if_neg cd]
  rw [nI_1]
  have n23 : ¬ (kB (B i) = 2 ∨ kB (B i) = 3) := fun z => by
    rcases z with z | z
    · exact cl (k2.1 z)
    · exact cd (k3.1 z)
  have e1 : tokS B (i + 1) = (kB (B i), (tokS B i).2 ++ [(i, [B i])]) := by rw [tokS_s, if_neg n4, if_neg hbd]
  have kk : kT [B i] = kSg (B i) := by
    unfold kT
    dsimp only
    rw [if_neg cl, if_neg cd]
  refine zT_if1 rfl (zT_bd (zT_eq (X12_byte hR hbM (by omega)) (zT_bd3 (X12_sign (hB i) _ _ (zT_bd2 ?_)))))
  rw [← kk]
  refine zT_w (cuS.tok hR hS0 (by omega) (i, [B i]) 0 0 (fun z => ?_) (fun z => ?_)) ?_
  · rw [kk] at z
    exact absurd z (kSg_kd _).2.2
  · rw [kk] at z
    exact absurd z (kSg_kd _).2.1
  · rintro ⟨M1, L1⟩ hc
    exact zT_some (zT_some (nxt (r := 1) (by omega) (by omega) e1 (fun _ w => n23 (by rw [← w.1]; exact w.2)) hc))
end REF

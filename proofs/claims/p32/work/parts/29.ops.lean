/-! UNDO, HOLD, RESTORE, TELL, FORGET, PLACE, BACK, HOUSE, COUNT -/
section OPS
variable {R : zR} {M : zM} {ru : zRu} {q l n T S u x : Nat}
theorem zUndoO (h : zSt R M ru q l n T S u x) : zT (f_X11_undo R M 2) (fun p => zT (f_X12_undo R p.2 242) (fun p1 => p1.1 = p.1 ∧ zOut R p1.2 (T + 3000000) (S + 300))) := by
  unfold f_X11_undo
  rw [h.x2, h.x3]
  refine zT_bd2 (zT_w (zUndo h.md h.kr h.kp h.rw0 h.gd0) ?_)
  rintro ⟨y, M1⟩ ⟨hy, hz⟩
  have hy2 : y = 0 ∨ y = 1 := hy
  refine zT_ck (by show zbool y = true; rcases hy2 with e | e <;> rw [e] <;> decide) (zT_some (zT_w hz ?_))
  rintro ⟨z, M2⟩ ⟨e, n1, u1, x1, a1, a2, a3, a4⟩
  refine ⟨e, (h.chg (Nat.le_refl _) (Nat.le_refl _) a1 a2 a3 (a4.mo (fun b k q => by unfold unA at q; unfold chA; omega))).out (by omega) (by omega)⟩
theorem zHoldO (h : zSt R M ru q l n T S u x) (y : Int32) : zT (f_X11_hold R M 2 y) (fun p => zT (f_X12_hold R p.2 242 y) (fun p1 => p1.1 = p.1 ∧ zOut R p1.2 (T + 3000000) (S + 300))) := by
  refine zT_w (zHold h.md h.kr h.xr h.sl h.rw0 h.gd0 y) ?_
  rintro ⟨z, M1⟩ hz
  refine zT_w hz ?_
  rintro ⟨z2, M2⟩ ⟨e, a1, g⟩
  refine ⟨e, (h.oth (g.mo (fun b k q => by unfold hoA at q; unfold otA; omega)) a1 ?_ ?_).out (by omega) (by omega)⟩
  · obtain ⟨t, t1, t2, t3, t4⟩ := h.to
    refine ⟨t, t1, by rw [g 207 6 (by unfold hoA; omega)]; exact t2, by rw [g 242 53 (by unfold hoA; omega)]; exact t3, fun i hi => ?_⟩
    rw [g 276 i (by unfold hoA; omega), g 208 i (by unfold hoA; omega), g 277 i (by unfold hoA; omega), g 209 i (by unfold hoA; omega)]
    exact t4 i hi
  · obtain ⟨t, t1, t2, t3, t4⟩ := h.tp
    refine ⟨t, t1, by rw [g 3 1 (by unfold hoA; omega)]; exact t2, by rw [g 242 2 (by unfold hoA; omega)]; exact t3, fun i hi => ?_⟩
    rw [g 4 i (by unfold hoA; omega), g 243 i (by unfold hoA; omega)]
    exact t4 i hi
theorem zRestoreO (h : zSt R M ru q l n T S u x) (y : Int32) : zT (f_X11_restore R M 2 y) (fun p => zT (f_X12_restore R p.2 242 y) (fun p1 => p1.1 = p.1 ∧ zOut R p1.2 (T + 3000000) (S + 300))) := by
  refine zT_w (zRestore h.md h.kr h.xr h.sl h.rw0 h.gd0 h.kp y) ?_
  rintro ⟨z, M1⟩ hz
  refine zT_w hz ?_
  rintro ⟨z2, M2⟩ ⟨e, n1, u1, a1, a2, a3, a4⟩
  exact ⟨e, (h.chg (Nat.le_refl _) (Nat.le_refl _) a1 a2 a3 (a4.mo (fun b k q => by unfold unA at q; unfold chA; omega))).out (by omega) (by omega)⟩
theorem zSt.toS {M1 : zM} (h : zSt R M ru q l n T S u x) (g : zag (fun b k => b = 208 ∨ b = 209 ∨ (b = 207 ∧ k = 6) ∨ b = 276 ∨ b = 277 ∨ (b = 242 ∧ k = 53)) M M1) (ht : zTo M1) : zSt R M1 ru q l n T S u x := by
  refine h.oth (g.mo (fun b k q => by unfold otA; omega)) ?_ ht ?_
  · exact h.sl.eq (fun k => g _ k (by omega)) (fun k => g _ k (by omega)) (fun k => g _ k (by omega)) (fun a k q1 q2 => g a k (by omega))
  · obtain ⟨t, t1, t2, t3, t4⟩ := h.tp
    refine ⟨t, t1, by rw [g 3 1 (by omega)]; exact t2, by rw [g 242 2 (by omega)]; exact t3, fun i hi => ?_⟩
    rw [g 4 i (by omega), g 243 i (by omega)]
    exact t4 i hi
theorem zSt.tpS {M1 : zM} (h : zSt R M ru q l n T S u x) (g : zag (fun b k => (b = 3 ∧ k = 1) ∨ b = 4 ∨ b = 243 ∨ (b = 242 ∧ k = 2)) M M1) (hp : zTp M1) : zSt R M1 ru q l n T S u x := by
  refine h.oth (g.mo (fun b k q => by unfold otA; omega)) ?_ ?_ hp
  · exact h.sl.eq (fun k => g _ k (by omega)) (fun k => g _ k (by omega)) (fun k => g _ k (by omega)) (fun a k q1 q2 => g a k (by omega))
  · obtain ⟨t, t1, t2, t3, t4⟩ := h.to
    refine ⟨t, t1, by rw [g 207 6 (by omega)]; exact t2, by rw [g 242 53 (by omega)]; exact t3, fun i hi => ?_⟩
    rw [g 276 i (by omega), g 208 i (by omega), g 277 i (by omega), g 209 i (by omega)]
    exact t4 i hi
theorem zTellO (h : zSt R M ru q l n T S u x) (x1 x2 : Int32) : zT (f_X11_tell R M 2 x1 x2) (fun p => zT (f_X12_tell_ R p.2 242 x1 x2) (fun p1 => p1.1 = p.1 ∧ zOut R p1.2 (T + 3000000) (S + 300))) := by
  have o0 : zOut R M (T + 3000000) (S + 300) := h.out (by omega) (by omega)
  have hn := h.n10
  obtain ⟨t, t1, t2, t3, t4⟩ := h.to
  have x7 : R 2 7 = 207 := h.xr.2.2.2.2.2.2.2
  have r54 : R 242 54 = 276 := h.md.at rfl (by decide)
  have r55 : R 242 55 = 277 := h.md.at rfl (by decide)
  obtain ⟨-, -, -, -, -, -, -, -, r0, r1, -⟩ := h.rt
  unfold f_X11_tell f_X12_tell_
  rw [h.x2, x7]
  -- the reference says no
  have no : t = 20 ∨ (x1 < 0 ∨ nI n ≤ x1) ∨ (x2 < 0 ∨ 9999 < x2) → ∀ Q : Int32 × zM → Prop, Q (-1, M) → zT (if (M 242 53) = (20 : Int32) then some ((-1 : Int32), M) else zbd (f_X12_isHouse R M 242 x1) fun r2 => if r2 = 0 then some ((-1 : Int32), M) else zbd (f_X12_in x2 (0 : Int32) (9999 : Int32)) fun r5 => if r5 = 0 then some ((-1 : Int32), M) else zck (zin (M 242 53) 20) <| zlt (zup M (R 242 54) (ztn (M 242 53)) x1) fun M9 => zck (zin (M9 242 53) 20) <| zlt (zup M9 (R 242 55) (ztn (M9 242 53)) x2) fun M11 => zlt (zup M11 242 53 ((M11 242 53) + (1 : Int32))) fun M12 => some (((M12 242 53) - (1 : Int32)), M12)) Q := by
    intro hx Q hQ
    rw [t3]
    by_cases h20 : t = 20
    · exact zT_if1 (by rw [h20]; rfl) (zT_some hQ)
    · refine zT_if0 (fun q => h20 (nI_inj (by omega) (by omega) q)) (zT_bd ?_)
      rcases nI_cases x1 n (by omega) with ⟨a, ha, rfl⟩ | hx1
      · refine zT_eq (zHy h.md hn h.n40 ha) (zT_if0 (by decide) (zT_bd (zT_eq (in_n ((hx.resolve_left h20).resolve_left ?_)) (zT_if1 rfl (zT_some hQ)))))
        rintro (q | q)
        · exact nI_pos (by omega) q
        · exact nI_ge ha (by omega) q
      · exact zT_eq (zHn h.md hn h.n40 hx1) (zT_if1 rfl (zT_some hQ))
  rcases nI_cases x1 n (by omega) with ⟨a, ha, rfl⟩ | hx1
  rotate_left
  · exact zT_bd (zT_eq (hz_no h.rw0 hx1) (zT_if1 rfl (zT_some (no (Or.inr (Or.inl hx1)) _ ⟨rfl, o0⟩))))
  refine zT_bd (zT_eq (hz_yes h.rw0 ha) (zT_if0 (by decide) ?_))
  by_cases h0 : x2 < 0
  · exact zT_if1 h0 (zT_some (no (Or.inr (Or.inr (Or.inl h0))) _ ⟨rfl, o0⟩))
  refine zT_if0 h0 ?_
  by_cases h1 : x2 ≤ 9999
  rotate_left
  · exact zT_if0 h1 (zT_some (no (Or.inr (Or.inr (Or.inr (i_lt_of h1)))) _ ⟨rfl, o0⟩))
  obtain ⟨d, hd, rfl⟩ := nI_upto (e := 9999) h0 h1 (by omega)
  refine zT_if1 h1 (zT_bd2 ?_)
  unfold f_X10_add
  rw [t2, r0, r1]
  refine zT_if0 (nI_pos (by omega)) ?_
  by_cases h20 : t = 20
  · exact zT_if0 (by rw [h20]; decide) (zT_some (zT_some (no (Or.inl h20) _ ⟨rfl, o0⟩)))
  have hz := zin_nI (k := t) (n := 20) (by omega) (by omega)
  refine zT_if1 (by rw [nI_lit 20]; exact nI_lt (by omega) (by omega)) (zT_ck hz (zT_lt ?_))
  have c1 : zup M 208 (ztn (nI t)) (nI a) 207 6 = nI t := by rw [zup_a (by omega)]; exact t2
  rw [c1]
  refine zT_ck hz (zT_lt (zT_lt (zT_some (zT_some ?_))))
  rw [ztn_nI (by omega), zup_same, zup_a (a := 209) (b := 207) (by omega), zup_a (a := 208) (b := 207) (by omega), t2, nI_1]
  show zT (if (zup (zup (zup M 208 t (nI a)) 209 t (nI d)) 207 6 (nI (t + 1)) 242 53) = (20 : Int32) then _ else _) _
  have g1 : zag (fun b k => b = 208 ∨ b = 209 ∨ (b = 207 ∧ k = 6)) M (zup (zup (zup M 208 t (nI a)) 209 t (nI d)) 207 6 (nI (t + 1))) := ((zag.rf.up (Or.inl rfl)).up (Or.inr (Or.inl rfl))).up (Or.inr (Or.inr ⟨rfl, rfl⟩))
  have v1 : ∀ i, zup (zup (zup M 208 t (nI a)) 209 t (nI d)) 207 6 (nI (t + 1)) 208 i = if i = t then nI a else M 208 i := fun i => by
    rw [zup_a (by omega), zup_a (by omega)]
    by_cases e : i = t
    · subst e; rw [zup_same, if_pos rfl]
    · rw [zup_k e, if_neg e]
  have v2 : ∀ i, zup (zup (zup M 208 t (nI a)) 209 t (nI d)) 207 6 (nI (t + 1)) 209 i = if i = t then nI d else M 209 i := fun i => by
    rw [zup_a (by omega)]
    by_cases e : i = t
    · subst e; rw [zup_same, if_pos rfl]
    · rw [zup_k e, if_neg e, zup_a (by omega)]
  have v3 : zup (zup (zup M 208 t (nI a)) 209 t (nI d)) 207 6 (nI (t + 1)) 207 6 = nI (t + 1) := zup_same
  generalize zup (zup (zup M 208 t (nI a)) 209 t (nI d)) 207 6 (nI (t + 1)) = M1 at g1 v1 v2 v3 ⊢
  have f53 : M1 242 53 = nI t := by rw [g1 242 53 (by omega)]; exact t3
  have f40 : M1 270 40 = nI n := by rw [g1 270 40 (by omega)]; exact h.n40
  dsimp only
  rw [f53]
  refine zT_if0 (fun q => h20 (nI_inj (by omega) (by omega) q)) (zT_bd (zT_eq (zHy h.md hn f40 ha) (zT_if0 (by decide) (zT_bd (zT_eq (in_y (nI_pos (by omega)) (by rw [nI_lit 9999]; exact nI_nlt hd (by omega))) (zT_if0 (by decide) (zT_ck hz (zT_lt ?_))))))))
  rw [r54, r55, ztn_nI (by omega)]
  have c2 : zup M1 276 t (nI a) 242 53 = nI t := by rw [zup_a (by omega)]; exact f53
  rw [c2]
  refine zT_ck hz (zT_lt (zT_lt (zT_some ?_)))
  rw [ztn_nI (by omega), zup_same, zup_a (a := 277) (b := 242) (by omega), c2, nI_1]
  refine ⟨rfl, (h.toS (M1 := zup (zup (zup M1 276 t (nI a)) 277 t (nI d)) 242 53 (nI (t + 1))) ?_ ?_).out (by omega) (by omega)⟩
  · exact (((g1.mo (fun b k q => by omega)).up (by omega)).up (by omega)).up (by omega)
  · refine ⟨t + 1, by omega, ?_, zup_same, fun i hi => ?_⟩
    · rw [zup_a (by omega), zup_a (by omega), zup_a (by omega)]
      exact v3
    · rw [zup_a (a := 242) (b := 276) (by omega), zup_a (a := 277) (b := 276) (by omega), zup_a (a := 242) (b := 277) (by omega), zup_a (a := 242) (b := 208) (by omega), zup_a (a := 277) (b := 208) (by omega), zup_a (a := 276) (b := 208) (by omega), zup_a (a := 242) (b := 209) (by omega), zup_a (a := 277) (b := 209) (by omega), zup_a (a := 276) (b := 209) (by omega), v1, v2]
      by_cases e : i = t
      · subst e
        rw [zup_same, zup_same, if_pos rfl, if_pos rfl]
        exact ⟨rfl, rfl, ⟨a, by omega, rfl⟩, d, hd, rfl⟩
      · rw [zup_k e, zup_k e, if_neg e, if_neg e, zup_a (by omega), g1 276 i (by omega), g1 277 i (by omega)]
        exact t4 i (by omega)
theorem zForgetO (h : zSt R M ru q l n T S u x) : zT (f_X11_forget R M 2) (fun p => zT (f_X12_forget p.2 242) (fun p1 => p1.1 = p.1 ∧ zOut R p1.2 (T + 3000000) (S + 300))) := by
  obtain ⟨t, t1, t2, t3, t4⟩ := h.to
  have x7 : R 2 7 = 207 := h.xr.2.2.2.2.2.2.2
  unfold f_X11_forget f_X10_clear f_X12_forget
  rw [x7]
  refine zT_bd (zT_lt (zT_some (zT_some (zT_lt (zT_some ⟨?_, (h.toS (M1 := zup (zup M 207 6 0) 242 53 0) ?_ ?_).out (by omega) (by omega)⟩)))))
  · show zup M 207 6 0 242 53 = M 207 6
    rw [zup_a (by omega), t2, t3]
  · exact (zag.rf.up (by omega)).up (by omega)
  · refine ⟨0, by omega, ?_, zup_same, fun i hi => absurd hi (by omega)⟩
    rw [zup_a (by omega)]
    exact zup_same
theorem zPlaceO (h : zSt R M ru q l n T S u x) : zT (f_X11_place M 2) (fun p => zT (f_X12_place M 242) (fun p1 => p1 = p ∧ zOut R M (T + 3000000) (S + 300))) := by
  unfold f_X11_place f_X12_place
  exact zT_some (zT_some ⟨h.pl.symm, h.out (by omega) (by omega)⟩)
theorem zBackO (h : zSt R M ru q l n T S u x) (y : Int32) : zT (f_X11_back R M 2 y) (fun p => zT (f_X12_back p.2 242 y) (fun p1 => p1.1 = p.1 ∧ zOut R p1.2 (T + 3000000) (S + 300))) := by
  have o0 : zOut R M (T + 3000000) (S + 300) := h.out (by omega) (by omega)
  obtain ⟨t, t1, t2, t3, t4⟩ := h.tp
  have x0 : R 2 0 = 3 := h.xr.1
  unfold f_X11_back f_X12_back
  rw [x0, t2]
  by_cases h0 : y < 0
  · exact zT_if1 h0 (zT_some (zT_if1 h0 (zT_some ⟨rfl, o0⟩)))
  refine zT_if0 h0 ?_
  by_cases h1 : y ≤ nI t
  rotate_left
  · refine zT_if0 h1 (zT_some (zT_if0 h0 ?_))
    show zT (if y ≤ M 242 2 then _ else _) _
    rw [t3]
    exact zT_if0 h1 (zT_some ⟨rfl, o0⟩)
  obtain ⟨d, hd, rfl⟩ := nI_upto (e := t) h0 h1 (by omega)
  refine zT_if1 h1 (zT_lt (zT_some (zT_if0 h0 ?_)))
  show zT (if nI d ≤ zup M 3 1 (nI t - nI d) 242 2 then zlt (zup (zup M 3 1 (nI t - nI d)) 242 2 (zup M 3 1 (nI t - nI d) 242 2 - nI d)) _ else _) (fun p1 : Int32 × zM => p1.1 = zup M 3 1 (nI t - nI d) 3 1 ∧ _)
  rw [zup_a (by omega), t3, zup_same, nI_sub hd]
  refine zT_if1 h1 (zT_lt (zT_some ⟨by dsimp only; exact zup_same, (h.tpS (M1 := zup (zup M 3 1 (nI (t - d))) 242 2 (nI (t - d))) ((zag.rf.up (by omega)).up (by omega)) ⟨t - d, by omega, ?_, zup_same, fun i hi => ?_⟩).out (by omega) (by omega)⟩))
  · rw [zup_a (by omega)]
    exact zup_same
  · rw [zup_a (by omega), zup_a (by omega), zup_a (by omega), zup_a (by omega)]
    exact t4 i (by omega)
end OPS

/-! READ, on the class's side: a whole law -/
def lawO (c a : Nat) (M : zM) (P : Nat → Int32) (res : tF ⊕ (Nat × zPr)) (M2 : zM) : Prop := (∃ f, res = .inl f ∧ lwD a M P f M2) ∨ (∃ r, res = .inr r ∧ lwS c a 0 1 M r.1 (fP r.2) (noLot r.2) M2)
def lawQ (R : zR) (L : zL) (c a : Nat) (M : zM) (P : Nat → Int32) (res : tF ⊕ (Nat × zPr)) : zM → Prop := fun e21 => zT (zbd (f_X5_readSum R e21 L 5 a) fun M22 => zbd (f_X3_add R M22 a (4 : Int32) (0 : Int32)) fun M24 => zbd2 (f_X5_take R M24 5 (59 : Int32)) fun r26 M27 => some M27) (lawO c a M P res)
def lawI (K V P : Nat → Int32) (c a : Nat) (M : zM) (res : tF ⊕ (Nat × zPr)) (m : Nat) (v : Int32 × zM) : Prop := (∃ (i t : Nat) (Q : zPr), m = 6 - i ∧ i ≤ 4 ∧ v.1 = nI i ∧ lwS c a 0 1 M t (fP Q) (noLot Q) v.2 ∧ ifsS K V (5 - i) t Q = res) ∨ (m = 0 ∧ ∃ f, lwD a M P f v.2 ∧ res = .inl f)
section CLS
variable {R : zR} {M M1 : zM} {L : zL} {K V P : Nat → Int32} {c t a : Nat} {f : tF}
theorem lwD.q (hp : zRp R) (hR : zLr R a) (ha : 12 < a) (h : lwD a M P f M1) : lawQ R L c a M P (.inl f) M1 := by
  unfold lawQ
  exact zT_bd (zT_w (h.sum hp hR ha) fun M2 q => zT_bd (zT_w (q.add hR ha _ _) fun M3 q => zT_bd2 (zT_w (q.take _) fun p q => zT_some (Or.inl ⟨f, rfl, q.1⟩))))
theorem X5_law (hp : zRp R) (hR : zLr R a) (ha : 12 < a) (hk : tkC M L K V P c) (hK : endS K c) (hV : valS K V c) (hal : AL t M) (ht : t ≤ c) {d x : Int32} (hd : d ∈ kdL) (hx : ckF d = x) (hd0 : d ≠ 0) (hKt : K t = d) : zT (f_X5_tellLaw R M L 5 x a) (fun M2 => (∃ f, lawS K V t = .inl f ∧ lwD a M P f M2) ∨ (∃ r, lawS K V t = .inr r ∧ AL r.1 M2 ∧ M2 a 3 = nI (fP r.2).length ∧ (fP r.2).length ≤ 400 ∧ zAt M2 (a + 1) (a + 2) 0 (fP r.2) ∧ (M2 a 4 = 0 → noLot r.2) ∧ zag (rsA a) M M2)) := by
  have c400 := hk.1
  unfold f_X5_tellLaw f_X3_clear
  have g0 : zag (rsA a) M (zup (zup M a 3 0) a 4 0) := (zag.rf.up (Or.inl (Or.inl (Or.inr (Or.inr ⟨rfl, Or.inl rfl⟩))))).up (Or.inl (Or.inl (Or.inr (Or.inr ⟨rfl, Or.inr rfl⟩))))
  refine zT_bd (zT_lt (zT_lt (zT_some ?_)))
  have s0 : lwS c a 0 0 (zup (zup M a 3 0) a 4 0) t [] True (zup (zup M a 3 0) a 4 0) := ⟨⟨by rw [zup_a (by omega), zup_a (by omega)]; exact hal.1, by rw [zup_a (by omega), zup_a (by omega)]; exact hal.2⟩, ht, Nat.zero_le _, by rw [zup_k (by omega), zup_same]; rfl, trivial, fun i _ => ⟨rfl, rfl⟩, fun w => ⟨w, trivial⟩, zag.rf⟩
  generalize zup (zup M a 3 0) a 4 0 = M0 at g0 s0 ⊢
  have hk0 : tkC M0 L K V P c := hk.eq (fun j => g0 7 j (fun q => (rsA_k ha q).1 rfl)) (fun j => g0 8 j (fun q => (rsA_k ha q).2 rfl))
  have D0 : ∀ {f : tF} {M7 : zM}, lwD a M0 P f M7 → lwD a M P f M7 := fun q => ⟨q.1, g0.tr q.2⟩
  refine zT_bd2 (zT_w (s0.take hp ha hk0 hK hd hx hd0) ?_)
  have md : mustS K d t = goS t := if_pos hKt
  rw [md]
  rintro ⟨r, M1⟩ (⟨f, e1, er, hd⟩ | ⟨t1, e1, er, hs⟩)
  · exact zT_if1 er (zT_some (Or.inl ⟨f, sB_l e1, D0 hd⟩))
  refine zT_if0 (by rw [er]; decide) ?_
  refine zT_bd2 (zT_w (hs.take hp ha hk0 hK (d := 5) (by decide) (by decide) (by decide)) ?_)
  rintro ⟨r, M2⟩ (⟨f, e2, er, hd⟩ | ⟨t2, e2, er, hs⟩)
  · exact zT_if1 er (zT_some (Or.inl ⟨f, (sB_r e1).trans (sB_l e2), D0 hd⟩))
  refine zT_if0 (by rw [er]; decide) ?_
  have hres : lawS K V t = ifsS K V 5 t2 [] := (sB_r e1).trans (sB_r e2)
  rw [hres]
  obtain ⟨res, hr⟩ : ∃ res, ifsS K V 5 t2 [] = res := ⟨_, rfl⟩
  rw [hr]
  have fin : ∀ M3, lawO c a M0 P res M3 → (∃ f, res = .inl f ∧ lwD a M P f M3) ∨ (∃ r, res = .inr r ∧ AL r.1 M3 ∧ M3 a 3 = nI (fP r.2).length ∧ (fP r.2).length ≤ 400 ∧ zAt M3 (a + 1) (a + 2) 0 (fP r.2) ∧ (M3 a 4 = 0 → noLot r.2) ∧ zag (rsA a) M M3) := by
    rintro M3 (⟨f, q1, q2⟩ | ⟨r, q1, x1, x2, x3, x4, x5, x6, x7, x8⟩)
    · exact Or.inl ⟨f, q1, D0 q2⟩
    · rw [Nat.zero_add] at x3 x4
      exact Or.inr ⟨r, q1, x1, x4, by omega, x5, fun w => (x7 w).2, g0.tr x8⟩
  refine zT_w (Q := lawO c a M0 P res) ?_ fin
  refine zT_bd (zT_loop (Q := lawQ R L c a M0 P res) (lawI K V P c a M0 res) 6 (Or.inl ⟨0, t2, [], rfl, by omega, rfl, ⟨hs.1, hs.2.1, (show 0 + 0 + 1 ≤ t2 by have h := hs.2.2.1; rw [List.length_nil] at h; omega), hs.2.2.2.1, hs.2.2.2.2.1, hs.2.2.2.2.2.1, fun w => ⟨(hs.2.2.2.2.2.2.1 w).1, fun b hb => absurd hb (by simp)⟩, hs.2.2.2.2.2.2.2⟩, hr⟩) (by omega) ?_)
  rintro m ⟨x3, M3⟩ (⟨i, t3, Q, rfl, hi, rfl, hs, hr⟩ | ⟨rfl, f, hd, hr⟩)
  case inr =>
    unfold b_X5_tellLaw_24
    rw [hr]
    exact zT_if (fun _ => zT_some (hd.q hp hR ha)) (fun _ => zT_if0 hd.1.ne (zT_some (hd.q hp hR ha)))
  dsimp only at hs
  have hs2 := hs
  obtain ⟨x1, x2, x3, x4, x5, x6, x7, x8⟩ := hs2
  have hk3 : tkC M3 L K V P c := hk0.eq (fun j => x8 7 j (fun q => (rsA_k ha q).1 rfl)) (fun j => x8 8 j (fun q => (rsA_k ha q).2 rfl))
  obtain ⟨k1, k7, k8, _⟩ := hk3.2 t3 x2
  unfold b_X5_tellLaw_24
  refine zT_if0 (by rw [nI_lit 4]; exact nI_nlt (by omega) (by omega)) (zT_if1 x1.2 ?_)
  dsimp only
  rw [hp.2.1, x1.1]
  refine zT_bd (zT_eq (X9_kind hp (by omega)) ?_)
  rw [k7]
  by_cases c30 : K t3 = 30
  · refine zT_if1 (by rw [c30]; decide) ?_
    by_cases i4 : i = 4
    · refine zT_if1 (by rw [i4]; rfl) (zT_bd (zT_w (X5_failAt hp (k := 2) (by omega) k8 x1.2 (Or.inr rfl)) ?_))
      rintro M4 ⟨hfc, g4⟩
      refine zT_some ⟨0, by omega, Or.inr ⟨rfl, (2, t3), ⟨hfc, x8.tr (g4.mo (fun b j q => Or.inr (Or.inr ⟨q.1, by omega, by omega⟩)))⟩, ?_⟩⟩
      rw [← hr, i4]
      show (if K t3 = 30 then _ else _) = _
      rw [if_pos c30]
      rfl
    · refine zT_if0 (fun z => i4 (nI_inj (by omega) (by omega) (z.trans (nI_lit 4)))) (zT_bd (zT_w (X5_branch hp hR ha hk0 hK hV hs c30) ?_))
      have e5 : 5 - i = (4 - i) + 1 := by omega
      have hstep : ifsS K V (5 - i) t3 Q = sB (braS K V t3) fun r => ifsS K V (4 - i) r.1 (Q ++ [r.2]) := by
        rw [e5]
        show (if K t3 = 30 then _ else _) = _
        rw [if_pos c30, if_neg (by omega)]
      rintro M4 (⟨f, e, hd⟩ | ⟨r, e, hs4⟩)
      · refine zT_some ⟨0, by omega, Or.inr ⟨rfl, f, hd, ?_⟩⟩
        rw [← hr, hstep, sB_l e]
      · refine zT_some ⟨6 - (i + 1), by omega, Or.inl ⟨i + 1, r.1, Q ++ [r.2], rfl, by omega, nI_1 i, ?_, ?_⟩⟩
        · rw [fP_app, fP_1]
          obtain ⟨w1, w2, w3, w4, w5, w6, w7, w8⟩ := hs4
          exact ⟨w1, w2, w3, w4, w5, w6, fun w => ⟨(w7 w).1, noLot_app (w7 w).2.1 (w7 w).2.2⟩, w8⟩
        · rw [← hr, hstep, sB_r e, show 5 - (i + 1) = 4 - i by omega]
  · refine zT_if0 (fun z => c30 ((ck_is 30 k1 (by decide) (by decide)).1 z)) (zT_some ?_)
    have hstep : ifsS K V (5 - i) t3 Q = sB (exS K V t3) fun r => sB (mustS K 4 r.1) fun t2 => .inr (t2, Q ++ [(none, r.2)]) := by
      rw [show 5 - i = (4 - i) + 1 by omega]
      show (if K t3 = 30 then _ else _) = _
      rw [if_neg c30]
    rw [hr] at hstep
    show lawQ R L c a M0 P res M3
    have G : ∀ {f : tF} {M5 : zM}, res = .inl f → lwD a M0 P f M5 → lawO c a M0 P res M5 := fun q1 q2 => Or.inl ⟨_, q1, q2⟩
    unfold lawQ
    refine zT_bd (zT_w (lwS.sum hp hR ha hk0 hK hV hs) ?_)
    rintro M4 (⟨f, e, hd⟩ | ⟨r, e, hs⟩)
    · exact zT_bd (zT_w (hd.add hR ha _ _) fun M5 q => zT_bd2 (zT_w (q.take _) fun p q => zT_some (G (hstep.trans (sB_l e)) q.1)))
    refine zT_bd (zT_w (hs.add4 hR ha c400) ?_)
    intro M5 hs
    refine zT_bd2 (zT_w (hs.take hp ha hk0 hK (d := 4) (by decide) (by decide) (by decide)) ?_)
    rintro ⟨r5, M6⟩ (⟨f, e2, er, hd⟩ | ⟨t6, e2, er, hs⟩)
    · exact zT_some (G (hstep.trans ((sB_r e).trans (sB_l e2))) hd)
    · refine zT_some (Or.inr ⟨(t6, Q ++ [(none, r.2)]), hstep.trans ((sB_r e).trans (sB_r e2)), ?_⟩)
      obtain ⟨w1, w2, w3, w4, w5, w6, w7, w8⟩ := hs
      have e0 : fP (Q ++ [(none, r.2)]) = fP Q ++ fE r.2 ++ [(4, 0, 0)] := by
        rw [fP_app, fP_1, List.append_assoc]
        rfl
      show lwS c a 0 1 M0 t6 (fP (Q ++ [(none, r.2)])) (noLot (Q ++ [(none, r.2)])) M6
      rw [e0]
      exact ⟨w1, w2, w3, w4, w5, w6, fun w => ⟨(w7 w).1, noLot_app (w7 w).2.1 (w7 w).2.2⟩, w8⟩
end CLS

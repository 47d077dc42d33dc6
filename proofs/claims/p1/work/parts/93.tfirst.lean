/-! THE FIRST CALL: both sides alike -/
def zI (R : zR) (M : zM) (L : zL) : Prop := kRc R ∧ kCt M ∧ zLk L ∧ (∃ ru q l n u x, zSt R M ru q l n 0 0 u x) ∧ M 13 4 = 0 ∧ M 18 4 = 0 ∧ (∀ j, M 21 j = 0) ∧ M 199 0 = 0 ∧ M 207 6 = 0
section FI
variable {R : zR} {M : zM} {L : zL}
theorem zI.nv (I : zI R M L) : zNv R M 0 0 := by
  obtain ⟨hrc, hct, -, ⟨ru, q, l, n, u, x, ho⟩, -⟩ := I
  exact ⟨hrc, ⟨q, ru, ho.rs, ho.q8, ho.qq, ho.ok, ho.cr⟩, hct, M, ⟨ru, q, l, n, u, x, ho⟩, fun _ _ => rfl, rfl, rfl, rfl⟩
theorem d_run (I : zI R M L) (x1 : Int32) : zT (n_X11_run R M L 2 x1) (fun p => zT (f_X12_run R p.2.1 242 x1) (fun p1 => p1.1 = p.1)) := by
  obtain ⟨hrc, hct, hL, ⟨ru, q, l, n, u, x, ho⟩, i13, i18, i21, i199, i207⟩ := I
  have C : kC R M q ru := ⟨ho.rs, ho.q8, ho.qq, ho.ok, ho.cr⟩
  have hT : 0 + 3100000 < 2147483648 := by omega
  have hS : 0 + 400 < 2147483648 := by omega
  obtain ⟨p0, e0, g0, hg⟩ := zT_and (zRun ho hT hS x1) (fun p e => gFr_of (f := fun M => f_X11_run R M 2 x1) (lk_run hrc ho x1) e)
  obtain ⟨b, eb, hv⟩ := s_run (L := L) C i13 x1 p0 e0
  obtain ⟨b2, eb2, hw⟩ := run_c C (kW.rf (L := L) hct) x1
  rw [eb] at eb2
  cases eb2
  refine ⟨b, eb, zT_w (zNv.go (fr := fun M => f_X12_run R M 242 x1) hrc (hw.kC C) hw.kCt (lr_run C.1.1 x1) (P := p0.2) ⟨fun a ha => ?_, ?_, ?_, ?_⟩ hg) (fun p1 hp => hp.1.trans hv)⟩
  · rw [hw.gFr a (Or.inr ha), g0 a (Or.inr ha)]
  · rw [hw.gFr 4 (by omega), g0 4 (by omega)]
  · rw [hw.gFr 3 (by omega), g0 3 (by omega)]
  · rw [hw.gFr 2 (by omega), g0 2 (by omega)]
theorem d_give (I : zI R M L) (x1 : Int32) (x2 : Int32) (x3 : Int32) : zT (n_X11_give R M L 2 x1 x2 x3) (fun p => zT (f_X12_give R p.2.1 242 x1 x2 x3) (fun p1 => p1.1 = p.1)) := by
  obtain ⟨hrc, hct, hL, ⟨ru, q, l, n, u, x, ho⟩, i13, i18, i21, i199, i207⟩ := I
  have C : kC R M q ru := ⟨ho.rs, ho.q8, ho.qq, ho.ok, ho.cr⟩
  have hT : 0 + 3100000 < 2147483648 := by omega
  have hS : 0 + 400 < 2147483648 := by omega
  obtain ⟨p0, e0, g0, hg⟩ := zT_and (zGive ho hT hS x1 x2 x3) (fun p e => gFr_of (f := fun M => f_X11_give R M 2 x1 x2 x3) (lk_give hrc ho x1 x2 x3) e)
  obtain ⟨b, eb, hv⟩ := s_give (L := L) C i13 x1 x2 x3 p0 e0
  obtain ⟨b2, eb2, hw⟩ := give_c C (kW.rf (L := L) hct) x1 x2 x3
  rw [eb] at eb2
  cases eb2
  refine ⟨b, eb, zT_w (zNv.go (fr := fun M => f_X12_give R M 242 x1 x2 x3) hrc (hw.kC C) hw.kCt (lr_give C.1.1 x1 x2 x3) (P := p0.2) ⟨fun a ha => ?_, ?_, ?_, ?_⟩ hg) (fun p1 hp => hp.1.trans hv)⟩
  · rw [hw.gFr a (Or.inr ha), g0 a (Or.inr ha)]
  · rw [hw.gFr 4 (by omega), g0 4 (by omega)]
  · rw [hw.gFr 3 (by omega), g0 3 (by omega)]
  · rw [hw.gFr 2 (by omega), g0 2 (by omega)]
theorem d_hide (I : zI R M L) (x1 : Int32) (x2 : Int32) : zT (n_X11_hide R M L 2 x1 x2) (fun p => zT (f_X12_hide R p.2.1 242 x1 x2) (fun p1 => p1.1 = p.1)) := by
  obtain ⟨hrc, hct, hL, ⟨ru, q, l, n, u, x, ho⟩, i13, i18, i21, i199, i207⟩ := I
  have C : kC R M q ru := ⟨ho.rs, ho.q8, ho.qq, ho.ok, ho.cr⟩
  have hT : 0 + 3100000 < 2147483648 := by omega
  have hS : 0 + 400 < 2147483648 := by omega
  obtain ⟨p0, e0, g0, hg⟩ := zT_and (zHide ho hT hS x1 x2) (fun p e => gFr_of (f := fun M => f_X11_hide R M 2 x1 x2) (lk_hide hrc ho x1 x2) e)
  obtain ⟨b, eb, hv⟩ := s_hide (L := L) C i13 x1 x2 p0 e0
  obtain ⟨b2, eb2, hw⟩ := hide_c C (kW.rf (L := L) hct) x1 x2
  rw [eb] at eb2
  cases eb2
  refine ⟨b, eb, zT_w (zNv.go (fr := fun M => f_X12_hide R M 242 x1 x2) hrc (hw.kC C) hw.kCt (lr_hide C.1.1 x1 x2) (P := p0.2) ⟨fun a ha => ?_, ?_, ?_, ?_⟩ hg) (fun p1 hp => hp.1.trans hv)⟩
  · rw [hw.gFr a (Or.inr ha), g0 a (Or.inr ha)]
  · rw [hw.gFr 4 (by omega), g0 4 (by omega)]
  · rw [hw.gFr 3 (by omega), g0 3 (by omega)]
  · rw [hw.gFr 2 (by omega), g0 2 (by omega)]
theorem d_grab (I : zI R M L) (x1 : Int32) : zT (n_X11_grab R M L 2 x1) (fun p => zT (f_X12_grab R p.2.1 242 x1) (fun p1 => p1.1 = p.1)) := by
  obtain ⟨hrc, hct, hL, ⟨ru, q, l, n, u, x, ho⟩, i13, i18, i21, i199, i207⟩ := I
  have C : kC R M q ru := ⟨ho.rs, ho.q8, ho.qq, ho.ok, ho.cr⟩
  have hT : 0 + 3100000 < 2147483648 := by omega
  have hS : 0 + 400 < 2147483648 := by omega
  obtain ⟨p0, e0, g0, hg⟩ := zT_and (zGrab ho hT hS x1) (fun p e => gFr_of (f := fun M => f_X11_grab R M 2 x1) (lk_grab hrc ho x1) e)
  obtain ⟨b, eb, hv⟩ := s_grab (L := L) C i13 x1 p0 e0
  obtain ⟨b2, eb2, hw⟩ := grab_c C (kW.rf (L := L) hct) x1
  rw [eb] at eb2
  cases eb2
  refine ⟨b, eb, zT_w (zNv.go (fr := fun M => f_X12_grab R M 242 x1) hrc (hw.kC C) hw.kCt (lr_grab C.1.1 x1) (P := p0.2) ⟨fun a ha => ?_, ?_, ?_, ?_⟩ hg) (fun p1 hp => hp.1.trans hv)⟩
  · rw [hw.gFr a (Or.inr ha), g0 a (Or.inr ha)]
  · rw [hw.gFr 4 (by omega), g0 4 (by omega)]
  · rw [hw.gFr 3 (by omega), g0 3 (by omega)]
  · rw [hw.gFr 2 (by omega), g0 2 (by omega)]
theorem d_build (I : zI R M L) (x1 : Int32) (x2 : Int32) : zT (n_X11_build R M L 2 x1 x2) (fun p => zT (f_X12_build R p.2.1 242 x1 x2) (fun p1 => p1.1 = p.1)) := by
  obtain ⟨hrc, hct, hL, ⟨ru, q, l, n, u, x, ho⟩, i13, i18, i21, i199, i207⟩ := I
  have C : kC R M q ru := ⟨ho.rs, ho.q8, ho.qq, ho.ok, ho.cr⟩
  have hT : 0 + 3100000 < 2147483648 := by omega
  have hS : 0 + 400 < 2147483648 := by omega
  obtain ⟨p0, e0, g0, hg⟩ := zT_and (zBuild ho hT hS x1 x2) (fun p e => gFr_of (f := fun M => f_X11_build R M 2 x1 x2) (lk_build hrc ho x1 x2) e)
  obtain ⟨b, eb, hv⟩ := s_build (L := L) C i13 x1 x2 p0 e0
  obtain ⟨b2, eb2, hw⟩ := build_c C (kW.rf (L := L) hct) x1 x2
  rw [eb] at eb2
  cases eb2
  refine ⟨b, eb, zT_w (zNv.go (fr := fun M => f_X12_build R M 242 x1 x2) hrc (hw.kC C) hw.kCt (lr_build C.1.1 x1 x2) (P := p0.2) ⟨fun a ha => ?_, ?_, ?_, ?_⟩ hg) (fun p1 hp => hp.1.trans hv)⟩
  · rw [hw.gFr a (Or.inr ha), g0 a (Or.inr ha)]
  · rw [hw.gFr 4 (by omega), g0 4 (by omega)]
  · rw [hw.gFr 3 (by omega), g0 3 (by omega)]
  · rw [hw.gFr 2 (by omega), g0 2 (by omega)]
theorem d_burn (I : zI R M L) (x1 : Int32) : zT (n_X11_burn R M L 2 x1) (fun p => zT (f_X12_burn R p.2.1 242 x1) (fun p1 => p1.1 = p.1)) := by
  obtain ⟨hrc, hct, hL, ⟨ru, q, l, n, u, x, ho⟩, i13, i18, i21, i199, i207⟩ := I
  have C : kC R M q ru := ⟨ho.rs, ho.q8, ho.qq, ho.ok, ho.cr⟩
  have hT : 0 + 3100000 < 2147483648 := by omega
  have hS : 0 + 400 < 2147483648 := by omega
  obtain ⟨p0, e0, g0, hg⟩ := zT_and (zBurn ho hT hS x1) (fun p e => gFr_of (f := fun M => f_X11_burn R M 2 x1) (lk_burn hrc ho x1) e)
  obtain ⟨b, eb, hv⟩ := s_burn (L := L) C i13 x1 p0 e0
  obtain ⟨b2, eb2, hw⟩ := burn_c C (kW.rf (L := L) hct) x1
  rw [eb] at eb2
  cases eb2
  refine ⟨b, eb, zT_w (zNv.go (fr := fun M => f_X12_burn R M 242 x1) hrc (hw.kC C) hw.kCt (lr_burn C.1.1 x1) (P := p0.2) ⟨fun a ha => ?_, ?_, ?_, ?_⟩ hg) (fun p1 hp => hp.1.trans hv)⟩
  · rw [hw.gFr a (Or.inr ha), g0 a (Or.inr ha)]
  · rw [hw.gFr 4 (by omega), g0 4 (by omega)]
  · rw [hw.gFr 3 (by omega), g0 3 (by omega)]
  · rw [hw.gFr 2 (by omega), g0 2 (by omega)]
theorem d_join (I : zI R M L) (x1 : Int32) : zT (n_X11_join R M L 2 x1) (fun p => zT (f_X12_join R p.2.1 242 x1) (fun p1 => p1.1 = p.1)) := by
  obtain ⟨hrc, hct, hL, ⟨ru, q, l, n, u, x, ho⟩, i13, i18, i21, i199, i207⟩ := I
  have C : kC R M q ru := ⟨ho.rs, ho.q8, ho.qq, ho.ok, ho.cr⟩
  have hT : 0 + 3100000 < 2147483648 := by omega
  have hS : 0 + 400 < 2147483648 := by omega
  obtain ⟨p0, e0, g0, hg⟩ := zT_and (zJoin ho hT hS x1) (fun p e => gFr_of (f := fun M => f_X11_join R M 2 x1) (lk_join hrc ho x1) e)
  obtain ⟨b, eb, hv⟩ := s_join (L := L) C i13 x1 p0 e0
  obtain ⟨b2, eb2, hw⟩ := join_c C (kW.rf (L := L) hct) x1
  rw [eb] at eb2
  cases eb2
  refine ⟨b, eb, zT_w (zNv.go (fr := fun M => f_X12_join R M 242 x1) hrc (hw.kC C) hw.kCt (lr_join C.1.1 x1) (P := p0.2) ⟨fun a ha => ?_, ?_, ?_, ?_⟩ hg) (fun p1 hp => hp.1.trans hv)⟩
  · rw [hw.gFr a (Or.inr ha), g0 a (Or.inr ha)]
  · rw [hw.gFr 4 (by omega), g0 4 (by omega)]
  · rw [hw.gFr 3 (by omega), g0 3 (by omega)]
  · rw [hw.gFr 2 (by omega), g0 2 (by omega)]
theorem d_undo (I : zI R M L) : zT (n_X11_undo R M L 2) (fun p => zT (f_X12_undo R p.2.1 242) (fun p1 => p1.1 = p.1)) := by
  obtain ⟨hrc, hct, hL, ⟨ru, q, l, n, u, x, ho⟩, i13, i18, i21, i199, i207⟩ := I
  have C : kC R M q ru := ⟨ho.rs, ho.q8, ho.qq, ho.ok, ho.cr⟩
  have hT : 0 + 3100000 < 2147483648 := by omega
  have hS : 0 + 400 < 2147483648 := by omega
  obtain ⟨p0, e0, g0, hg⟩ := zT_and (zUndoO ho) (fun p e => gFr_of (f := fun M => f_X11_undo R M 2) (lk_undo hrc ho) e)
  obtain ⟨b, eb, hv⟩ := s_undo (L := L) C i18 p0 e0
  obtain ⟨b2, eb2, hw⟩ := undo_c C (kW.rf (L := L) hct)
  rw [eb] at eb2
  cases eb2
  refine ⟨b, eb, zT_w (zNv.go (fr := fun M => f_X12_undo R M 242) hrc (hw.kC C) hw.kCt (lr_undo C.1.1) (P := p0.2) ⟨fun a ha => ?_, ?_, ?_, ?_⟩ hg) (fun p1 hp => hp.1.trans hv)⟩
  · rw [hw.gFr a (Or.inr ha), g0 a (Or.inr ha)]
  · rw [hw.gFr 4 (by omega), g0 4 (by omega)]
  · rw [hw.gFr 3 (by omega), g0 3 (by omega)]
  · rw [hw.gFr 2 (by omega), g0 2 (by omega)]
theorem d_restore (I : zI R M L) (x1 : Int32) : zT (n_X11_restore R M L 2 x1) (fun p => zT (f_X12_restore R p.2.1 242 x1) (fun p1 => p1.1 = p.1)) := by
  obtain ⟨hrc, hct, hL, ⟨ru, q, l, n, u, x, ho⟩, i13, i18, i21, i199, i207⟩ := I
  have C : kC R M q ru := ⟨ho.rs, ho.q8, ho.qq, ho.ok, ho.cr⟩
  have hT : 0 + 3100000 < 2147483648 := by omega
  have hS : 0 + 400 < 2147483648 := by omega
  obtain ⟨p0, e0, g0, hg⟩ := zT_and (zRestoreO ho x1) (fun p e => gFr_of (f := fun M => f_X11_restore R M 2 x1) (lk_restore hrc ho x1) e)
  obtain ⟨b, eb, hv⟩ := s_restore (L := L) C i21 x1 p0 e0
  obtain ⟨b2, eb2, hw⟩ := restore_c C (kW.rf (L := L) hct) x1
  rw [eb] at eb2
  cases eb2
  refine ⟨b, eb, zT_w (zNv.go (fr := fun M => f_X12_restore R M 242 x1) hrc (hw.kC C) hw.kCt (lr_restore C.1.1 x1) (P := p0.2) ⟨fun a ha => ?_, ?_, ?_, ?_⟩ hg) (fun p1 hp => hp.1.trans hv)⟩
  · rw [hw.gFr a (Or.inr ha), g0 a (Or.inr ha)]
  · rw [hw.gFr 4 (by omega), g0 4 (by omega)]
  · rw [hw.gFr 3 (by omega), g0 3 (by omega)]
  · rw [hw.gFr 2 (by omega), g0 2 (by omega)]
theorem d_house (I : zI R M L) (x1 : Int32) (x2 : Int32) : zT (n_X11_house R M L 2 x1 x2) (fun p => zT (f_X12_house R p.2 242 x1 x2) (fun p1 => p1.1 = p.1)) := by
  obtain ⟨hrc, hct, hL, ⟨ru, q, l, n, u, x, ho⟩, i13, i18, i21, i199, i207⟩ := I
  have C : kC R M q ru := ⟨ho.rs, ho.q8, ho.qq, ho.ok, ho.cr⟩
  have hT : 0 + 3100000 < 2147483648 := by omega
  have hS : 0 + 400 < 2147483648 := by omega
  obtain ⟨p0, e0, g0, hg⟩ := zT_and (zHouseO ho hT x1 x2) (fun p e => gFr_of (f := fun M => f_X11_house R M 2 x1 x2) (lk_house hrc ho x1 x2) e)
  obtain ⟨b, eb, hv⟩ := s_house (L := L) C i13 x1 x2 p0 e0
  obtain ⟨b2, eb2, hw⟩ := house_c C (kW.rf (L := L) hct) x1 x2
  rw [eb] at eb2
  cases eb2
  refine ⟨b, eb, zT_w (zNv.go (fr := fun M => f_X12_house R M 242 x1 x2) hrc (hw.kC C) hw.kCt (lr_house C.1.1 x1 x2) (P := p0.2) ⟨fun a ha => ?_, ?_, ?_, ?_⟩ hg) (fun p1 hp => hp.1.trans hv)⟩
  · rw [hw.gFr a (Or.inr ha), g0 a (Or.inr ha)]
  · rw [hw.gFr 4 (by omega), g0 4 (by omega)]
  · rw [hw.gFr 3 (by omega), g0 3 (by omega)]
  · rw [hw.gFr 2 (by omega), g0 2 (by omega)]
theorem d_becomes (I : zI R M L) (x1 : Int32) : zT (n_X11_becomes R M L 2 x1) (fun p => zT (f_X12_becomes R p.2.1 242 x1) (fun p1 => p1.1 = p.1)) := by
  obtain ⟨hrc, hct, hL, ⟨ru, q, l, n, u, x, ho⟩, i13, i18, i21, i199, i207⟩ := I
  have C : kC R M q ru := ⟨ho.rs, ho.q8, ho.qq, ho.ok, ho.cr⟩
  have hT : 0 + 3100000 < 2147483648 := by omega
  have hS : 0 + 400 < 2147483648 := by omega
  obtain ⟨p0, e0, g0, hg⟩ := zAns.outF ho (zBecomes ho hT hS x1)
  obtain ⟨b, eb, hv⟩ := s_becomes (L := L) C i13 x1 p0 e0
  obtain ⟨b2, eb2, hw⟩ := becomes_c C (kW.rf (L := L) hct) x1
  rw [eb] at eb2
  cases eb2
  refine ⟨b, eb, zT_w (zNv.go (fr := fun M => f_X12_becomes R M 242 x1) hrc (hw.kC C) hw.kCt (lr_becomes C.1.1 x1) (P := p0.2) ⟨fun a ha => ?_, ?_, ?_, ?_⟩ hg) (fun p1 hp => hp.1.trans hv)⟩
  · rw [hw.gFr a (Or.inr ha), g0 a (Or.inr ha)]
  · rw [hw.gFr 4 (by omega), g0 4 (by omega)]
  · rw [hw.gFr 3 (by omega), g0 3 (by omega)]
  · rw [hw.gFr 2 (by omega), g0 2 (by omega)]
theorem d_apart (I : zI R M L) (x1 : Int32) : zT (n_X11_apart R M L 2 x1) (fun p => zT (f_X12_apart R p.2.1 242 x1) (fun p1 => p1.1 = p.1)) := by
  obtain ⟨hrc, hct, hL, ⟨ru, q, l, n, u, x, ho⟩, i13, i18, i21, i199, i207⟩ := I
  have C : kC R M q ru := ⟨ho.rs, ho.q8, ho.qq, ho.ok, ho.cr⟩
  have hT : 0 + 3100000 < 2147483648 := by omega
  have hS : 0 + 400 < 2147483648 := by omega
  obtain ⟨p0, e0, g0, hg⟩ := zAns.outF ho (zApart ho hT hS x1)
  obtain ⟨b, eb, hv⟩ := s_apart (L := L) C i13 x1 p0 e0
  obtain ⟨b2, eb2, hw⟩ := apart_c C (kW.rf (L := L) hct) x1
  rw [eb] at eb2
  cases eb2
  refine ⟨b, eb, zT_w (zNv.go (fr := fun M => f_X12_apart R M 242 x1) hrc (hw.kC C) hw.kCt (lr_apart C.1.1 x1) (P := p0.2) ⟨fun a ha => ?_, ?_, ?_, ?_⟩ hg) (fun p1 hp => hp.1.trans hv)⟩
  · rw [hw.gFr a (Or.inr ha), g0 a (Or.inr ha)]
  · rw [hw.gFr 4 (by omega), g0 4 (by omega)]
  · rw [hw.gFr 3 (by omega), g0 3 (by omega)]
  · rw [hw.gFr 2 (by omega), g0 2 (by omega)]
theorem d_even (I : zI R M L) (x1 : Int32) (x2 : Int32) : zT (n_X11_even R M L 2 x1 x2) (fun p => zT (f_X12_even R p.2.1 242 x1 x2) (fun p1 => p1.1 = p.1)) := by
  obtain ⟨hrc, hct, hL, ⟨ru, q, l, n, u, x, ho⟩, i13, i18, i21, i199, i207⟩ := I
  have C : kC R M q ru := ⟨ho.rs, ho.q8, ho.qq, ho.ok, ho.cr⟩
  have hT : 0 + 3100000 < 2147483648 := by omega
  have hS : 0 + 400 < 2147483648 := by omega
  obtain ⟨p0, e0, g0, hg⟩ := zAns.outF ho (zEven ho hT hS x1 x2)
  obtain ⟨b, eb, hv⟩ := s_even (L := L) C i13 x1 x2 p0 e0
  obtain ⟨b2, eb2, hw⟩ := even_c C (kW.rf (L := L) hct) x1 x2
  rw [eb] at eb2
  cases eb2
  refine ⟨b, eb, zT_w (zNv.go (fr := fun M => f_X12_even R M 242 x1 x2) hrc (hw.kC C) hw.kCt (lr_even C.1.1 x1 x2) (P := p0.2) ⟨fun a ha => ?_, ?_, ?_, ?_⟩ hg) (fun p1 hp => hp.1.trans hv)⟩
  · rw [hw.gFr a (Or.inr ha), g0 a (Or.inr ha)]
  · rw [hw.gFr 4 (by omega), g0 4 (by omega)]
  · rw [hw.gFr 3 (by omega), g0 3 (by omega)]
  · rw [hw.gFr 2 (by omega), g0 2 (by omega)]
theorem d_soonest (I : zI R M L) (x1 : Int32) : zT (n_X11_soonest R M L 2 x1) (fun p => zT (f_X12_soonest R p.2.1 242 x1) (fun p1 => p1.1 = p.1)) := by
  obtain ⟨hrc, hct, hL, ⟨ru, q, l, n, u, x, ho⟩, i13, i18, i21, i199, i207⟩ := I
  have C : kC R M q ru := ⟨ho.rs, ho.q8, ho.qq, ho.ok, ho.cr⟩
  have hT : 0 + 3100000 < 2147483648 := by omega
  have hS : 0 + 400 < 2147483648 := by omega
  obtain ⟨p0, e0, g0, hg⟩ := zAns.outF ho (zSoonest ho hT hS x1)
  obtain ⟨b, eb, hv⟩ := s_soonest (L := L) C i13 x1 p0 e0
  obtain ⟨b2, eb2, hw⟩ := soonest_c C (kW.rf (L := L) hct) x1
  rw [eb] at eb2
  cases eb2
  refine ⟨b, eb, zT_w (zNv.go (fr := fun M => f_X12_soonest R M 242 x1) hrc (hw.kC C) hw.kCt (lr_soonest C.1.1 x1) (P := p0.2) ⟨fun a ha => ?_, ?_, ?_, ?_⟩ hg) (fun p1 hp => hp.1.trans hv)⟩
  · rw [hw.gFr a (Or.inr ha), g0 a (Or.inr ha)]
  · rw [hw.gFr 4 (by omega), g0 4 (by omega)]
  · rw [hw.gFr 3 (by omega), g0 3 (by omega)]
  · rw [hw.gFr 2 (by omega), g0 2 (by omega)]
theorem d_start (I : zI R M L) (x1 : Int32) (x2 : Int32) : zT (n_X11_start R M L 2 x1 x2) (fun p => zT (f_X12_start R p.2.1 242 x1 x2) (fun p1 => p1.1 = p.1)) := by
  obtain ⟨hrc, hct, hL, ⟨ru, q, l, n, u, x, ho⟩, i13, i18, i21, i199, i207⟩ := I
  have C : kC R M q ru := ⟨ho.rs, ho.q8, ho.qq, ho.ok, ho.cr⟩
  have hT : 0 + 3100000 < 2147483648 := by omega
  have hS : 0 + 400 < 2147483648 := by omega
  obtain ⟨p0, e0, g0, hg⟩ := zAns.outF ho (zStart ho hT hS x1 x2)
  obtain ⟨b, eb, hv⟩ := s_start (L := L) C i13 x1 x2 p0 e0
  obtain ⟨b2, eb2, hw⟩ := start_c C (kW.rf (L := L) hct) x1 x2
  rw [eb] at eb2
  cases eb2
  refine ⟨b, eb, zT_w (zNv.go (fr := fun M => f_X12_start R M 242 x1 x2) hrc (hw.kC C) hw.kCt (lr_start C.1.1 x1 x2) (P := p0.2) ⟨fun a ha => ?_, ?_, ?_, ?_⟩ hg) (fun p1 hp => hp.1.trans hv)⟩
  · rw [hw.gFr a (Or.inr ha), g0 a (Or.inr ha)]
  · rw [hw.gFr 4 (by omega), g0 4 (by omega)]
  · rw [hw.gFr 3 (by omega), g0 3 (by omega)]
  · rw [hw.gFr 2 (by omega), g0 2 (by omega)]
theorem d_wealth (I : zI R M L) (x1 : Int32) (x2 : Int32) (x3 : Int32) : zT (n_X11_wealth R M L 2 x1 x2 x3) (fun p => zT (f_X12_wealth R p.2.1 242 x1 x2 x3) (fun p1 => p1.1 = p.1)) := by
  obtain ⟨hrc, hct, hL, ⟨ru, q, l, n, u, x, ho⟩, i13, i18, i21, i199, i207⟩ := I
  have C : kC R M q ru := ⟨ho.rs, ho.q8, ho.qq, ho.ok, ho.cr⟩
  have hT : 0 + 3100000 < 2147483648 := by omega
  have hS : 0 + 400 < 2147483648 := by omega
  obtain ⟨p0, e0, g0, hg⟩ := zAns.outF ho (zWealth ho hT hS x1 x2 x3)
  obtain ⟨b, eb, hv⟩ := s_wealth (L := L) C i13 x1 x2 x3 p0 e0
  obtain ⟨b2, eb2, hw⟩ := wealth_c C (kW.rf (L := L) hct) x1 x2 x3
  rw [eb] at eb2
  cases eb2
  refine ⟨b, eb, zT_w (zNv.go (fr := fun M => f_X12_wealth R M 242 x1 x2 x3) hrc (hw.kC C) hw.kCt (lr_wealth C.1.1 x1 x2 x3) (P := p0.2) ⟨fun a ha => ?_, ?_, ?_, ?_⟩ hg) (fun p1 hp => hp.1.trans hv)⟩
  · rw [hw.gFr a (Or.inr ha), g0 a (Or.inr ha)]
  · rw [hw.gFr 4 (by omega), g0 4 (by omega)]
  · rw [hw.gFr 3 (by omega), g0 3 (by omega)]
  · rw [hw.gFr 2 (by omega), g0 2 (by omega)]
theorem d_free (I : zI R M L) (x1 : Int32) (x2 : Int32) : zT (n_X11_free R M L 2 x1 x2) (fun p => zT (f_X12_free R p.2.1 242 x1 x2) (fun p1 => p1.1 = p.1)) := by
  obtain ⟨hrc, hct, hL, ⟨ru, q, l, n, u, x, ho⟩, i13, i18, i21, i199, i207⟩ := I
  have C : kC R M q ru := ⟨ho.rs, ho.q8, ho.qq, ho.ok, ho.cr⟩
  have hT : 0 + 3100000 < 2147483648 := by omega
  have hS : 0 + 400 < 2147483648 := by omega
  obtain ⟨p0, e0, g0, hg⟩ := zAns.outF ho (zFree ho hT x1 x2)
  obtain ⟨b, eb, hv⟩ := s_free (L := L) C i13 x1 x2 p0 e0
  obtain ⟨b2, eb2, hw⟩ := free_c C (kW.rf (L := L) hct) x1 x2
  rw [eb] at eb2
  cases eb2
  refine ⟨b, eb, zT_w (zNv.go (fr := fun M => f_X12_free R M 242 x1 x2) hrc (hw.kC C) hw.kCt (lr_free C.1.1 x1 x2) (P := p0.2) ⟨fun a ha => ?_, ?_, ?_, ?_⟩ hg) (fun p1 hp => hp.1.trans hv)⟩
  · rw [hw.gFr a (Or.inr ha), g0 a (Or.inr ha)]
  · rw [hw.gFr 4 (by omega), g0 4 (by omega)]
  · rw [hw.gFr 3 (by omega), g0 3 (by omega)]
  · rw [hw.gFr 2 (by omega), g0 2 (by omega)]
theorem d_best (I : zI R M L) (x1 : Int32) (x2 : Int32) (x3 : Int32) (x4 : Int32) : zT (n_X11_best R M L 2 x1 x2 x3 x4) (fun p => zT (f_X12_best R p.2.1 242 x1 x2 x3 x4) (fun p1 => p1.1 = p.1)) := by
  obtain ⟨hrc, hct, hL, ⟨ru, q, l, n, u, x, ho⟩, i13, i18, i21, i199, i207⟩ := I
  have C : kC R M q ru := ⟨ho.rs, ho.q8, ho.qq, ho.ok, ho.cr⟩
  have hT : 0 + 3100000 < 2147483648 := by omega
  have hS : 0 + 400 < 2147483648 := by omega
  obtain ⟨p0, e0, g0, hg⟩ := zAns.outF ho (zBest ho hT hS x1 x2 x3 x4)
  obtain ⟨b, eb, hv⟩ := s_best (L := L) C i13 x1 x2 x3 x4 p0 e0
  obtain ⟨b2, eb2, hw⟩ := best_c C (kW.rf (L := L) hct) x1 x2 x3 x4
  rw [eb] at eb2
  cases eb2
  refine ⟨b, eb, zT_w (zNv.go (fr := fun M => f_X12_best R M 242 x1 x2 x3 x4) hrc (hw.kC C) hw.kCt (lr_best C.1.1 x1 x2 x3 x4) (P := p0.2) ⟨fun a ha => ?_, ?_, ?_, ?_⟩ hg) (fun p1 hp => hp.1.trans hv)⟩
  · rw [hw.gFr a (Or.inr ha), g0 a (Or.inr ha)]
  · rw [hw.gFr 4 (by omega), g0 4 (by omega)]
  · rw [hw.gFr 3 (by omega), g0 3 (by omega)]
  · rw [hw.gFr 2 (by omega), g0 2 (by omega)]
theorem d_loan (I : zI R M L) (x1 : Int32) (x2 : Int32) (x3 : Int32) (x4 : Int32) : zT (n_X11_loan R M L 2 x1 x2 x3 x4) (fun p => zT (f_X12_loan R p.2.1 242 x1 x2 x3 x4) (fun p1 => p1.1 = p.1)) := by
  obtain ⟨hrc, hct, hL, ⟨ru, q, l, n, u, x, ho⟩, i13, i18, i21, i199, i207⟩ := I
  have C : kC R M q ru := ⟨ho.rs, ho.q8, ho.qq, ho.ok, ho.cr⟩
  have hT : 0 + 3100000 < 2147483648 := by omega
  have hS : 0 + 400 < 2147483648 := by omega
  obtain ⟨p0, e0, g0, hg⟩ := zAns.outF ho (zLoan ho hT hS x1 x2 x3 x4)
  obtain ⟨b, eb, hv⟩ := s_loan (L := L) C i13 x1 x2 x3 x4 p0 e0
  obtain ⟨b2, eb2, hw⟩ := loan_c C (kW.rf (L := L) hct) x1 x2 x3 x4
  rw [eb] at eb2
  cases eb2
  refine ⟨b, eb, zT_w (zNv.go (fr := fun M => f_X12_loan R M 242 x1 x2 x3 x4) hrc (hw.kC C) hw.kCt (lr_loan C.1.1 x1 x2 x3 x4) (P := p0.2) ⟨fun a ha => ?_, ?_, ?_, ?_⟩ hg) (fun p1 hp => hp.1.trans hv)⟩
  · rw [hw.gFr a (Or.inr ha), g0 a (Or.inr ha)]
  · rw [hw.gFr 4 (by omega), g0 4 (by omega)]
  · rw [hw.gFr 3 (by omega), g0 3 (by omega)]
  · rw [hw.gFr 2 (by omega), g0 2 (by omega)]
theorem d_site (I : zI R M L) (x1 : Int32) : zT (n_X11_site R M L 2 x1) (fun p => zT (f_X12_site R p.2.1 242 x1) (fun p1 => p1.1 = p.1)) := by
  obtain ⟨hrc, hct, hL, ⟨ru, q, l, n, u, x, ho⟩, i13, i18, i21, i199, i207⟩ := I
  have C : kC R M q ru := ⟨ho.rs, ho.q8, ho.qq, ho.ok, ho.cr⟩
  have hT : 0 + 3100000 < 2147483648 := by omega
  have hS : 0 + 400 < 2147483648 := by omega
  obtain ⟨p0, e0, g0, hg⟩ := zAns.outF ho (zSite ho hT hS x1)
  obtain ⟨b, eb, hv⟩ := s_site (L := L) C hct i13 i199 x1 p0 e0
  obtain ⟨b2, eb2, hw⟩ := site_c C (kW.rf (L := L) hct) x1
  rw [eb] at eb2
  cases eb2
  refine ⟨b, eb, zT_w (zNv.go (fr := fun M => f_X12_site R M 242 x1) hrc (hw.kC C) hw.kCt (lr_site C.1.1 x1) (P := p0.2) ⟨fun a ha => ?_, ?_, ?_, ?_⟩ hg) (fun p1 hp => hp.1.trans hv)⟩
  · rw [hw.gFr a (Or.inr ha), g0 a (Or.inr ha)]
  · rw [hw.gFr 4 (by omega), g0 4 (by omega)]
  · rw [hw.gFr 3 (by omega), g0 3 (by omega)]
  · rw [hw.gFr 2 (by omega), g0 2 (by omega)]
theorem d_rests (I : zI R M L) (x1 : Int32) (x2 : Int32) : zT (n_X11_rests R M L 2 x1 x2) (fun p => zT (f_X12_rests R p.2.1 242 x1 x2) (fun p1 => p1.1 = p.1)) := by
  obtain ⟨hrc, hct, hL, ⟨ru, q, l, n, u, x, ho⟩, i13, i18, i21, i199, i207⟩ := I
  have C : kC R M q ru := ⟨ho.rs, ho.q8, ho.qq, ho.ok, ho.cr⟩
  have hT : 0 + 3100000 < 2147483648 := by omega
  have hS : 0 + 400 < 2147483648 := by omega
  obtain ⟨p0, e0, g0, hg⟩ := zAns.outF ho (zRests ho hT hS x1 x2)
  obtain ⟨b, eb, hv⟩ := s_rests (L := L) C i13 x1 x2 p0 e0
  obtain ⟨b2, eb2, hw⟩ := rests_c C (kW.rf (L := L) hct) x1 x2
  rw [eb] at eb2
  cases eb2
  refine ⟨b, eb, zT_w (zNv.go (fr := fun M => f_X12_rests R M 242 x1 x2) hrc (hw.kC C) hw.kCt (lr_rests C.1.1 x1 x2) (P := p0.2) ⟨fun a ha => ?_, ?_, ?_, ?_⟩ hg) (fun p1 hp => hp.1.trans hv)⟩
  · rw [hw.gFr a (Or.inr ha), g0 a (Or.inr ha)]
  · rw [hw.gFr 4 (by omega), g0 4 (by omega)]
  · rw [hw.gFr 3 (by omega), g0 3 (by omega)]
  · rw [hw.gFr 2 (by omega), g0 2 (by omega)]
theorem d_fits (I : zI R M L) (x1 : Int32) (x2 : Int32) : zT (n_X11_fits R M L 2 x1 x2) (fun p => zT (f_X12_fits R p.2.1 242 x1 x2) (fun p1 => p1.1 = p.1)) := by
  obtain ⟨hrc, hct, hL, ⟨ru, q, l, n, u, x, ho⟩, i13, i18, i21, i199, i207⟩ := I
  have C : kC R M q ru := ⟨ho.rs, ho.q8, ho.qq, ho.ok, ho.cr⟩
  have hT : 0 + 3100000 < 2147483648 := by omega
  have hS : 0 + 400 < 2147483648 := by omega
  obtain ⟨p0, e0, g0, hg⟩ := zAns.outF ho (zFits ho hT x1 x2)
  obtain ⟨b, eb, hv⟩ := s_fits (L := L) C i13 i207 x1 x2 p0 e0
  obtain ⟨b2, eb2, hw⟩ := fits_c C (kW.rf (L := L) hct) x1 x2
  rw [eb] at eb2
  cases eb2
  refine ⟨b, eb, zT_w (zNv.go (fr := fun M => f_X12_fits R M 242 x1 x2) hrc (hw.kC C) hw.kCt (lr_fits C.1.1 x1 x2) (P := p0.2) ⟨fun a ha => ?_, ?_, ?_, ?_⟩ hg) (fun p1 hp => hp.1.trans hv)⟩
  · rw [hw.gFr a (Or.inr ha), g0 a (Or.inr ha)]
  · rw [hw.gFr 4 (by omega), g0 4 (by omega)]
  · rw [hw.gFr 3 (by omega), g0 3 (by omega)]
  · rw [hw.gFr 2 (by omega), g0 2 (by omega)]
theorem d_span (I : zI R M L) (x1 : Int32) (x2 : Int32) (x3 : Int32) : zT (n_X11_span R M L 2 x1 x2 x3) (fun p => zT (f_X12_span R p.2.1 242 x1 x2 x3) (fun p1 => p1.1 = p.1)) := by
  obtain ⟨hrc, hct, hL, ⟨ru, q, l, n, u, x, ho⟩, i13, i18, i21, i199, i207⟩ := I
  have C : kC R M q ru := ⟨ho.rs, ho.q8, ho.qq, ho.ok, ho.cr⟩
  have hT : 0 + 3100000 < 2147483648 := by omega
  have hS : 0 + 400 < 2147483648 := by omega
  obtain ⟨p0, e0, g0, hg⟩ := zAns.outF ho (zSpan ho hT x1 x2 x3)
  obtain ⟨b, eb, hv⟩ := s_span (L := L) C i13 x1 x2 x3 p0 e0
  obtain ⟨b2, eb2, hw⟩ := span_c C (kW.rf (L := L) hct) x1 x2 x3
  rw [eb] at eb2
  cases eb2
  refine ⟨b, eb, zT_w (zNv.go (fr := fun M => f_X12_span R M 242 x1 x2 x3) hrc (hw.kC C) hw.kCt (lr_span C.1.1 x1 x2 x3) (P := p0.2) ⟨fun a ha => ?_, ?_, ?_, ?_⟩ hg) (fun p1 hp => hp.1.trans hv)⟩
  · rw [hw.gFr a (Or.inr ha), g0 a (Or.inr ha)]
  · rw [hw.gFr 4 (by omega), g0 4 (by omega)]
  · rw [hw.gFr 3 (by omega), g0 3 (by omega)]
  · rw [hw.gFr 2 (by omega), g0 2 (by omega)]
theorem d_ago (I : zI R M L) (x1 : Int32) : zT (n_X11_ago R M L 2 x1) (fun p => zT (f_X12_ago R p.2.1 242 x1) (fun p1 => p1.1 = p.1)) := by
  obtain ⟨hrc, hct, hL, ⟨ru, q, l, n, u, x, ho⟩, i13, i18, i21, i199, i207⟩ := I
  have C : kC R M q ru := ⟨ho.rs, ho.q8, ho.qq, ho.ok, ho.cr⟩
  have hT : 0 + 3100000 < 2147483648 := by omega
  have hS : 0 + 400 < 2147483648 := by omega
  obtain ⟨p0, e0, g0, hg⟩ := zAns.outF ho (zAgo ho hT x1)
  obtain ⟨b, eb, hv⟩ := s_ago (L := L) C i13 x1 p0 e0
  obtain ⟨b2, eb2, hw⟩ := ago_c C (kW.rf (L := L) hct) x1
  rw [eb] at eb2
  cases eb2
  refine ⟨b, eb, zT_w (zNv.go (fr := fun M => f_X12_ago R M 242 x1) hrc (hw.kC C) hw.kCt (lr_ago C.1.1 x1) (P := p0.2) ⟨fun a ha => ?_, ?_, ?_, ?_⟩ hg) (fun p1 hp => hp.1.trans hv)⟩
  · rw [hw.gFr a (Or.inr ha), g0 a (Or.inr ha)]
  · rw [hw.gFr 4 (by omega), g0 4 (by omega)]
  · rw [hw.gFr 3 (by omega), g0 3 (by omega)]
  · rw [hw.gFr 2 (by omega), g0 2 (by omega)]
theorem d_hold (I : zI R M L) (x1 : Int32) : zT (n_X11_hold R M L 2 x1) (fun p => zT (f_X12_hold R p.2.1 242 x1) (fun p1 => p1.1 = p.1)) := by
  refine zT_w (c_hold I.nv L x1) ?_
  rintro ⟨v, M1, L1⟩ ⟨-, -, hd, hr⟩
  dsimp only at hd hr ⊢
  obtain ⟨p1, e1, ho, -⟩ := hr
  obtain ⟨-, ⟨q, ru, C⟩, -⟩ := I.nv
  refine ⟨p1, e1, ?_⟩
  obtain ⟨a1, a2⟩ := holdR C.1.1 e1
  rcases hd with ⟨h1, h2, -⟩ | ⟨s, h1, h2, h3, -⟩
  · exact (a1 h1).trans h2.symm
  · exact (a2 ⟨s, h1, h2⟩).trans h3.symm
end FI
theorem zI0 {M1 M : zM} {L : zL} (hc : clR 218 ru0 none M1) (h10 : M1 2 10 = -1) (h4 : M1 13 4 = 0) (h5 : M1 13 5 = 0) (h6 : M1 13 6 = 0) (h7 : M1 13 7 = 0) (g1 : zag (fun b k => (218 ≤ b ∧ b < 242) ∨ (b = 2 ∧ k = 10) ∨ (b = 13 ∧ 4 ≤ k)) (fun _ _ => 0) M1) (e : M = zup (zup M1 242 17 (-1)) 256 0 7) (hL : zLk L) : zI (zRl LF) M L := by
  obtain ⟨n1, n2, n3⟩ := zNv0 hc h10 h4 h5 h6 h7 g1 e
  have hz := zSt0 hc h10 h4 h5 h6 h7 g1 e
  have f : ∀ b k, ¬ (b = 242 ∧ k = 17) → ¬ (b = 256 ∧ k = 0) → M b k = M1 b k := fun b k a1 a2 => by rw [e, zup_o a2, zup_o a1]
  refine ⟨LF_rc, n1.2.2.1, hL, hz, ?_, ?_, n2, ?_, ?_⟩
  · rw [f 13 4 (by omega) (by omega)]; exact h4
  · rw [f 18 4 (by omega) (by omega)]; exact g1 18 4 (by omega)
  · rw [f 199 0 (by omega) (by omega)]; exact g1 199 0 (by omega)
  · rw [f 207 6 (by omega) (by omega)]; exact g1 207 6 (by omega)

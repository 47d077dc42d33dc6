/-! WHICH SLOTS HOLD SOMETHING: alike on both sides -/
def zFl (M : zM) : Prop := ∀ s, s < 3 → M 21 s = M 281 s
def kA9 : Nat → Bool := fun a => decide (242 ≤ a ∧ a ≠ 281)
theorem kA9_f {R : zR} (hR : zMd R) {i : Nat} (h : 242 ≤ mdA i ∧ mdA i ≠ 281) : kA9 (R 242 i) = true := by
  rw [hR i (by omega)]
  exact decide_eq_true h
section FL
variable {R : zR} {M M1 : zM}
theorem zFl.go (h : zFl M) (e : ∀ k, M1 21 k = M 21 k) (e1 : M1 281 = M 281) : zFl M1 := fun s hs => by
  rw [e, e1]
  exact h s hs
theorem no281 : ¬ kA9 281 = true := by decide
theorem fl_run (hR : zMd R) {p : Int32 × zM} {x1 : Int32} (e : f_X12_run R M 242 x1 = some p) : p.2 281 = M 281 :=
  loc_fr (A := kA9) (f := fun M => f_X12_run R M 242 x1) (fun M N => lc_f_X12_run (by decide) (kA9_f hR (by decide)) (kA9_f hR (by decide)) (kA9_f hR (by decide)) (kA9_f hR (by decide)) (kA9_f hR (by decide)) (kA9_f hR (by decide)) (kA9_f hR (by decide)) (kA9_f hR (by decide)) (kA9_f hR (by decide)) (kA9_f hR (by decide)) (kA9_f hR (by decide)) (kA9_f hR (by decide)) (kA9_f hR (by decide)) (kA9_f hR (by decide)) (kA9_f hR (by decide)) (kA9_f hR (by decide)) (kA9_f hR (by decide)) (kA9_f hR (by decide)) (kA9_f hR (by decide)) (kA9_f hR (by decide))) e no281
theorem fl_give (hR : zMd R) {p : Int32 × zM} {x1 : Int32} {x2 : Int32} {x3 : Int32} (e : f_X12_give R M 242 x1 x2 x3 = some p) : p.2 281 = M 281 :=
  loc_fr (A := kA9) (f := fun M => f_X12_give R M 242 x1 x2 x3) (fun M N => lc_f_X12_give (by decide) (kA9_f hR (by decide)) (kA9_f hR (by decide)) (kA9_f hR (by decide))) e no281
theorem fl_hide (hR : zMd R) {p : Int32 × zM} {x1 : Int32} {x2 : Int32} (e : f_X12_hide R M 242 x1 x2 = some p) : p.2 281 = M 281 :=
  loc_fr (A := kA9) (f := fun M => f_X12_hide R M 242 x1 x2) (fun M N => lc_f_X12_hide (by decide) (kA9_f hR (by decide)) (kA9_f hR (by decide)) (kA9_f hR (by decide))) e no281
theorem fl_grab (hR : zMd R) {p : Int32 × zM} {x1 : Int32} (e : f_X12_grab R M 242 x1 = some p) : p.2 281 = M 281 :=
  loc_fr (A := kA9) (f := fun M => f_X12_grab R M 242 x1) (fun M N => lc_f_X12_grab (by decide) (kA9_f hR (by decide)) (kA9_f hR (by decide)) (kA9_f hR (by decide))) e no281
theorem fl_build (hR : zMd R) {p : Int32 × zM} {x1 : Int32} {x2 : Int32} (e : f_X12_build R M 242 x1 x2 = some p) : p.2 281 = M 281 :=
  loc_fr (A := kA9) (f := fun M => f_X12_build R M 242 x1 x2) (fun M N => lc_f_X12_build (by decide) (kA9_f hR (by decide)) (kA9_f hR (by decide)) (kA9_f hR (by decide))) e no281
theorem fl_burn (hR : zMd R) {p : Int32 × zM} {x1 : Int32} (e : f_X12_burn R M 242 x1 = some p) : p.2 281 = M 281 :=
  loc_fr (A := kA9) (f := fun M => f_X12_burn R M 242 x1) (fun M N => lc_f_X12_burn (by decide) (kA9_f hR (by decide)) (kA9_f hR (by decide)) (kA9_f hR (by decide))) e no281
theorem fl_join (hR : zMd R) {p : Int32 × zM} {x1 : Int32} (e : f_X12_join R M 242 x1 = some p) : p.2 281 = M 281 :=
  loc_fr (A := kA9) (f := fun M => f_X12_join R M 242 x1) (fun M N => lc_f_X12_join (by decide) (kA9_f hR (by decide)) (kA9_f hR (by decide)) (kA9_f hR (by decide)) (kA9_f hR (by decide))) e no281
theorem fl_undo (hR : zMd R) {p : Int32 × zM} (e : f_X12_undo R M 242 = some p) : p.2 281 = M 281 :=
  loc_fr (A := kA9) (f := fun M => f_X12_undo R M 242) (fun M N => lc_f_X12_undo (by decide) (kA9_f hR (by decide)) (kA9_f hR (by decide))) e no281
theorem fl_house (hR : zMd R) {p : Int32 × zM} {x1 : Int32} {x2 : Int32} (e : f_X12_house R M 242 x1 x2 = some p) : p.2 281 = M 281 :=
  loc_fr (A := kA9) (f := fun M => f_X12_house R M 242 x1 x2) (fun M N => lc_f_X12_house (by decide) (kA9_f hR (by decide)) (kA9_f hR (by decide)) (kA9_f hR (by decide)) (kA9_f hR (by decide)) (kA9_f hR (by decide)) (kA9_f hR (by decide)) (kA9_f hR (by decide)) (kA9_f hR (by decide)) (kA9_f hR (by decide)) (kA9_f hR (by decide)) (kA9_f hR (by decide)) (kA9_f hR (by decide)) (kA9_f hR (by decide)) (kA9_f hR (by decide)) (kA9_f hR (by decide))) e no281
theorem fl_becomes (hR : zMd R) {p : Int32 × zM} {x1 : Int32} (e : f_X12_becomes R M 242 x1 = some p) : p.2 281 = M 281 :=
  loc_fr (A := kA9) (f := fun M => f_X12_becomes R M 242 x1) (fun M N => lc_f_X12_becomes (by decide) (kA9_f hR (by decide)) (kA9_f hR (by decide)) (kA9_f hR (by decide)) (kA9_f hR (by decide)) (kA9_f hR (by decide)) (kA9_f hR (by decide)) (kA9_f hR (by decide)) (kA9_f hR (by decide)) (kA9_f hR (by decide)) (kA9_f hR (by decide)) (kA9_f hR (by decide)) (kA9_f hR (by decide)) (kA9_f hR (by decide)) (kA9_f hR (by decide)) (kA9_f hR (by decide)) (kA9_f hR (by decide)) (kA9_f hR (by decide)) (kA9_f hR (by decide)) (kA9_f hR (by decide)) (kA9_f hR (by decide))) e no281
theorem fl_apart (hR : zMd R) {p : Int32 × zM} {x1 : Int32} (e : f_X12_apart R M 242 x1 = some p) : p.2 281 = M 281 :=
  loc_fr (A := kA9) (f := fun M => f_X12_apart R M 242 x1) (fun M N => lc_f_X12_apart (by decide) (kA9_f hR (by decide)) (kA9_f hR (by decide)) (kA9_f hR (by decide)) (kA9_f hR (by decide)) (kA9_f hR (by decide)) (kA9_f hR (by decide)) (kA9_f hR (by decide)) (kA9_f hR (by decide)) (kA9_f hR (by decide)) (kA9_f hR (by decide)) (kA9_f hR (by decide)) (kA9_f hR (by decide)) (kA9_f hR (by decide)) (kA9_f hR (by decide)) (kA9_f hR (by decide)) (kA9_f hR (by decide)) (kA9_f hR (by decide)) (kA9_f hR (by decide)) (kA9_f hR (by decide))) e no281
theorem fl_even (hR : zMd R) {p : Int32 × zM} {x1 : Int32} {x2 : Int32} (e : f_X12_even R M 242 x1 x2 = some p) : p.2 281 = M 281 :=
  loc_fr (A := kA9) (f := fun M => f_X12_even R M 242 x1 x2) (fun M N => lc_f_X12_even (by decide) (kA9_f hR (by decide)) (kA9_f hR (by decide)) (kA9_f hR (by decide)) (kA9_f hR (by decide)) (kA9_f hR (by decide)) (kA9_f hR (by decide)) (kA9_f hR (by decide)) (kA9_f hR (by decide)) (kA9_f hR (by decide)) (kA9_f hR (by decide)) (kA9_f hR (by decide)) (kA9_f hR (by decide)) (kA9_f hR (by decide)) (kA9_f hR (by decide)) (kA9_f hR (by decide)) (kA9_f hR (by decide)) (kA9_f hR (by decide)) (kA9_f hR (by decide))) e no281
theorem fl_soonest (hR : zMd R) {p : Int32 × zM} {x1 : Int32} (e : f_X12_soonest R M 242 x1 = some p) : p.2 281 = M 281 :=
  loc_fr (A := kA9) (f := fun M => f_X12_soonest R M 242 x1) (fun M N => lc_f_X12_soonest (by decide) (kA9_f hR (by decide)) (kA9_f hR (by decide)) (kA9_f hR (by decide)) (kA9_f hR (by decide)) (kA9_f hR (by decide)) (kA9_f hR (by decide)) (kA9_f hR (by decide)) (kA9_f hR (by decide)) (kA9_f hR (by decide)) (kA9_f hR (by decide)) (kA9_f hR (by decide)) (kA9_f hR (by decide)) (kA9_f hR (by decide)) (kA9_f hR (by decide)) (kA9_f hR (by decide)) (kA9_f hR (by decide)) (kA9_f hR (by decide)) (kA9_f hR (by decide))) e no281
theorem fl_start (hR : zMd R) {p : Int32 × zM} {x1 : Int32} {x2 : Int32} (e : f_X12_start R M 242 x1 x2 = some p) : p.2 281 = M 281 :=
  loc_fr (A := kA9) (f := fun M => f_X12_start R M 242 x1 x2) (fun M N => lc_f_X12_start (by decide) (kA9_f hR (by decide)) (kA9_f hR (by decide)) (kA9_f hR (by decide)) (kA9_f hR (by decide)) (kA9_f hR (by decide)) (kA9_f hR (by decide)) (kA9_f hR (by decide)) (kA9_f hR (by decide)) (kA9_f hR (by decide)) (kA9_f hR (by decide)) (kA9_f hR (by decide)) (kA9_f hR (by decide)) (kA9_f hR (by decide)) (kA9_f hR (by decide)) (kA9_f hR (by decide)) (kA9_f hR (by decide))) e no281
theorem fl_wealth (hR : zMd R) {p : Int32 × zM} {x1 : Int32} {x2 : Int32} {x3 : Int32} (e : f_X12_wealth R M 242 x1 x2 x3 = some p) : p.2 281 = M 281 :=
  loc_fr (A := kA9) (f := fun M => f_X12_wealth R M 242 x1 x2 x3) (fun M N => lc_f_X12_wealth (by decide) (kA9_f hR (by decide)) (kA9_f hR (by decide)) (kA9_f hR (by decide)) (kA9_f hR (by decide)) (kA9_f hR (by decide)) (kA9_f hR (by decide)) (kA9_f hR (by decide)) (kA9_f hR (by decide)) (kA9_f hR (by decide)) (kA9_f hR (by decide)) (kA9_f hR (by decide)) (kA9_f hR (by decide)) (kA9_f hR (by decide)) (kA9_f hR (by decide)) (kA9_f hR (by decide)) (kA9_f hR (by decide)) (kA9_f hR (by decide)) (kA9_f hR (by decide)) (kA9_f hR (by decide))) e no281
theorem fl_free (hR : zMd R) {p : Int32 × zM} {x1 : Int32} {x2 : Int32} (e : f_X12_free R M 242 x1 x2 = some p) : p.2 281 = M 281 :=
  loc_fr (A := kA9) (f := fun M => f_X12_free R M 242 x1 x2) (fun M N => lc_f_X12_free (by decide) (kA9_f hR (by decide)) (kA9_f hR (by decide)) (kA9_f hR (by decide)) (kA9_f hR (by decide)) (kA9_f hR (by decide)) (kA9_f hR (by decide)) (kA9_f hR (by decide)) (kA9_f hR (by decide)) (kA9_f hR (by decide)) (kA9_f hR (by decide)) (kA9_f hR (by decide)) (kA9_f hR (by decide)) (kA9_f hR (by decide)) (kA9_f hR (by decide)) (kA9_f hR (by decide))) e no281
theorem fl_best (hR : zMd R) {p : Int32 × zM} {x1 : Int32} {x2 : Int32} {x3 : Int32} {x4 : Int32} (e : f_X12_best R M 242 x1 x2 x3 x4 = some p) : p.2 281 = M 281 :=
  loc_fr (A := kA9) (f := fun M => f_X12_best R M 242 x1 x2 x3 x4) (fun M N => lc_f_X12_best (by decide) (kA9_f hR (by decide)) (kA9_f hR (by decide)) (kA9_f hR (by decide)) (kA9_f hR (by decide)) (kA9_f hR (by decide)) (kA9_f hR (by decide)) (kA9_f hR (by decide)) (kA9_f hR (by decide)) (kA9_f hR (by decide)) (kA9_f hR (by decide)) (kA9_f hR (by decide)) (kA9_f hR (by decide)) (kA9_f hR (by decide)) (kA9_f hR (by decide)) (kA9_f hR (by decide)) (kA9_f hR (by decide)) (kA9_f hR (by decide)) (kA9_f hR (by decide)) (kA9_f hR (by decide))) e no281
theorem fl_loan (hR : zMd R) {p : Int32 × zM} {x1 : Int32} {x2 : Int32} {x3 : Int32} {x4 : Int32} (e : f_X12_loan R M 242 x1 x2 x3 x4 = some p) : p.2 281 = M 281 :=
  loc_fr (A := kA9) (f := fun M => f_X12_loan R M 242 x1 x2 x3 x4) (fun M N => lc_f_X12_loan (by decide) (kA9_f hR (by decide)) (kA9_f hR (by decide)) (kA9_f hR (by decide)) (kA9_f hR (by decide)) (kA9_f hR (by decide)) (kA9_f hR (by decide)) (kA9_f hR (by decide)) (kA9_f hR (by decide)) (kA9_f hR (by decide)) (kA9_f hR (by decide)) (kA9_f hR (by decide)) (kA9_f hR (by decide)) (kA9_f hR (by decide)) (kA9_f hR (by decide)) (kA9_f hR (by decide)) (kA9_f hR (by decide)) (kA9_f hR (by decide)) (kA9_f hR (by decide)) (kA9_f hR (by decide))) e no281
theorem fl_site (hR : zMd R) {p : Int32 × zM} {x1 : Int32} (e : f_X12_site R M 242 x1 = some p) : p.2 281 = M 281 :=
  loc_fr (A := kA9) (f := fun M => f_X12_site R M 242 x1) (fun M N => lc_f_X12_site (by decide) (kA9_f hR (by decide)) (kA9_f hR (by decide)) (kA9_f hR (by decide)) (kA9_f hR (by decide)) (kA9_f hR (by decide)) (kA9_f hR (by decide)) (kA9_f hR (by decide)) (kA9_f hR (by decide)) (kA9_f hR (by decide)) (kA9_f hR (by decide)) (kA9_f hR (by decide)) (kA9_f hR (by decide)) (kA9_f hR (by decide)) (kA9_f hR (by decide)) (kA9_f hR (by decide))) e no281
theorem fl_rests (hR : zMd R) {p : Int32 × zM} {x1 : Int32} {x2 : Int32} (e : f_X12_rests R M 242 x1 x2 = some p) : p.2 281 = M 281 :=
  loc_fr (A := kA9) (f := fun M => f_X12_rests R M 242 x1 x2) (fun M N => lc_f_X12_rests (by decide) (kA9_f hR (by decide)) (kA9_f hR (by decide)) (kA9_f hR (by decide)) (kA9_f hR (by decide)) (kA9_f hR (by decide)) (kA9_f hR (by decide)) (kA9_f hR (by decide)) (kA9_f hR (by decide)) (kA9_f hR (by decide)) (kA9_f hR (by decide)) (kA9_f hR (by decide)) (kA9_f hR (by decide)) (kA9_f hR (by decide)) (kA9_f hR (by decide)) (kA9_f hR (by decide)) (kA9_f hR (by decide)) (kA9_f hR (by decide)) (kA9_f hR (by decide)) (kA9_f hR (by decide)) (kA9_f hR (by decide))) e no281
theorem fl_fits (hR : zMd R) {p : Int32 × zM} {x1 : Int32} {x2 : Int32} (e : f_X12_fits R M 242 x1 x2 = some p) : p.2 281 = M 281 :=
  loc_fr (A := kA9) (f := fun M => f_X12_fits R M 242 x1 x2) (fun M N => lc_f_X12_fits (by decide) (kA9_f hR (by decide)) (kA9_f hR (by decide)) (kA9_f hR (by decide)) (kA9_f hR (by decide)) (kA9_f hR (by decide)) (kA9_f hR (by decide)) (kA9_f hR (by decide)) (kA9_f hR (by decide)) (kA9_f hR (by decide)) (kA9_f hR (by decide)) (kA9_f hR (by decide)) (kA9_f hR (by decide)) (kA9_f hR (by decide)) (kA9_f hR (by decide)) (kA9_f hR (by decide)) (kA9_f hR (by decide)) (kA9_f hR (by decide)) (kA9_f hR (by decide)) (kA9_f hR (by decide)) (kA9_f hR (by decide)) (kA9_f hR (by decide)) (kA9_f hR (by decide))) e no281
theorem fl_span (hR : zMd R) {p : Int32 × zM} {x1 : Int32} {x2 : Int32} {x3 : Int32} (e : f_X12_span R M 242 x1 x2 x3 = some p) : p.2 281 = M 281 :=
  loc_fr (A := kA9) (f := fun M => f_X12_span R M 242 x1 x2 x3) (fun M N => lc_f_X12_span (by decide) (kA9_f hR (by decide)) (kA9_f hR (by decide)) (kA9_f hR (by decide)) (kA9_f hR (by decide)) (kA9_f hR (by decide)) (kA9_f hR (by decide)) (kA9_f hR (by decide)) (kA9_f hR (by decide)) (kA9_f hR (by decide)) (kA9_f hR (by decide)) (kA9_f hR (by decide)) (kA9_f hR (by decide)) (kA9_f hR (by decide)) (kA9_f hR (by decide)) (kA9_f hR (by decide)) (kA9_f hR (by decide)) (kA9_f hR (by decide)) (kA9_f hR (by decide)) (kA9_f hR (by decide)) (kA9_f hR (by decide)) (kA9_f hR (by decide)) (kA9_f hR (by decide))) e no281
theorem fl_ago (hR : zMd R) {p : Int32 × zM} {x1 : Int32} (e : f_X12_ago R M 242 x1 = some p) : p.2 281 = M 281 :=
  loc_fr (A := kA9) (f := fun M => f_X12_ago R M 242 x1) (fun M N => lc_f_X12_ago (by decide) (kA9_f hR (by decide)) (kA9_f hR (by decide)) (kA9_f hR (by decide)) (kA9_f hR (by decide)) (kA9_f hR (by decide)) (kA9_f hR (by decide)) (kA9_f hR (by decide)) (kA9_f hR (by decide)) (kA9_f hR (by decide)) (kA9_f hR (by decide)) (kA9_f hR (by decide)) (kA9_f hR (by decide)) (kA9_f hR (by decide)) (kA9_f hR (by decide)) (kA9_f hR (by decide)) (kA9_f hR (by decide)) (kA9_f hR (by decide))) e no281
theorem fl_tell (hR : zMd R) {p : Int32 × zM} {x1 : Int32} {x2 : Int32} (e : f_X12_tell_ R M 242 x1 x2 = some p) : p.2 281 = M 281 :=
  loc_fr (A := kA9) (f := fun M => f_X12_tell_ R M 242 x1 x2) (fun M N => lc_f_X12_tell_ (by decide) (kA9_f hR (by decide)) (kA9_f hR (by decide)) (kA9_f hR (by decide))) e no281
theorem fl_forget (_ : zMd R) {p : Int32 × zM} (e : f_X12_forget M 242 = some p) : p.2 281 = M 281 :=
  loc_fr (A := kA9) (f := fun M => f_X12_forget M 242) (fun M N => lc_f_X12_forget (by decide)) e no281
theorem fl_feed (hR : zMd R) {p : Int32 × zM} {x1 : Int32} {x2 : Int32} {x3 : Int32} {x4 : Int32} {x5 : Int32} (e : f_X12_feed R M 242 x1 x2 x3 x4 x5 = some p) : p.2 281 = M 281 :=
  loc_fr (A := kA9) (f := fun M => f_X12_feed R M 242 x1 x2 x3 x4 x5) (fun M N => lc_f_X12_feed (by decide) (kA9_f hR (by decide))) e no281
theorem fl_back (_ : zMd R) {p : Int32 × zM} {x1 : Int32} (e : f_X12_back M 242 x1 = some p) : p.2 281 = M 281 :=
  loc_fr (A := kA9) (f := fun M => f_X12_back M 242 x1) (fun M N => lc_f_X12_back (by decide)) e no281
theorem fl_restL (hR : zMd R) {x1 : Int32} {M1 : zM} (e : zloop zN (fun v => b_X12_restore_22 R v.2 242 x1 v.1) ((0 : Int32), M) = some M1) : M1 281 = M 281 := by
  have h := lo_b_X12_restore_22 (A := kA9) (R := R) (N := M) (x1 := x1) (y0 := 0) (y1 := M) (kA9_f hR (by decide)) (kA9_f hR (by decide))
  rw [zmx_self, e, Option.map_some] at h
  injection h with h
  rw [h]
  exact zmx_no no281
theorem fl_holdL (hR : zMd R) {x1 : Int32} {M1 : zM} (e : zloop zN (fun v => b_X12_hold_20 R v.2 242 x1 v.1) ((0 : Int32), M) = some M1) : M1 281 = M 281 := by
  have h := lo_b_X12_hold_20 (A := kA9) (R := R) (N := M) (x1 := x1) (y0 := 0) (y1 := M) (kA9_f hR (by decide)) (kA9_f hR (by decide))
  rw [zmx_self, e, Option.map_some] at h
  injection h with h
  rw [h]
  exact zmx_no no281
/-- what restore says on the reference's side -/
theorem restR (hR : zMd R) {x : Int32} {p : Int32 × zM} (e : f_X12_restore R M 242 x = some p) : p.2 281 = M 281 ∧ ((x < 0 ∨ nI 3 ≤ x) → p.1 = 0) ∧ ∀ s, s < 3 → x = nI s → p.1 = if M 281 s = 0 then 0 else 1 := by
  have e59 : R 242 59 = 281 := hR.at rfl (by decide)
  unfold f_X12_restore at e
  rcases X12_in3 (x := x) with ⟨s, hs, rfl, ei⟩ | ⟨hx, ei⟩
  · rw [ei] at e
    obtain ⟨r, h1, e⟩ := zbd_e e
    cases h1
    rw [if_neg (by decide)] at e
    obtain ⟨-, e⟩ := zck_e e
    rw [e59, ztn_nI (by omega)] at e
    have hno : ¬ (nI s < 0 ∨ nI 3 ≤ nI s) := fun z => by
      rcases z with z | z
      · exact absurd z (nI_pos (by omega))
      · exact absurd z (nI_ge hs (by omega))
    by_cases c : M 281 s = 0
    · rw [if_pos c] at e
      cases e
      refine ⟨rfl, fun z => absurd z hno, fun t ht h => ?_⟩
      have : s = t := nI_inj (by omega) (by omega) h
      subst this
      rw [if_pos c]
    · rw [if_neg c] at e
      obtain ⟨M5, h5, e⟩ := zbd_e e
      obtain ⟨M6, h6, e⟩ := zlt_e e
      cases e
      refine ⟨?_, fun z => absurd z hno, fun t ht h => ?_⟩
      · show M6 281 = M 281
        rw [h6, zup_r (by omega)]
        exact fl_restL hR h5
      · have : s = t := nI_inj (by omega) (by omega) h
        subst this
        rw [if_neg c]
  · rw [ei] at e
    obtain ⟨r, h1, e⟩ := zbd_e e
    cases h1
    rw [if_pos rfl] at e
    cases e
    refine ⟨rfl, fun _ => rfl, fun t ht h => ?_⟩
    subst h
    rcases hx with z | z
    · exact absurd z (nI_pos (by omega))
    · exact absurd z (nI_ge ht (by omega))
/-- what restore says on the class's side -/
theorem restC {L : zL} {q : Nat} {ru : zRu} (C : kC R M q ru) {x : Int32} {p : Int32 × zM × zL} (e : n_X11_restore R M L 2 x = some p) : ((x < 0 ∨ nI 3 ≤ x) → p.1 = 0) ∧ ∀ s, s < 3 → x = nI s → p.1 = if M 21 s = 0 then 0 else 1 := by
  unfold n_X11_restore n_X2_bringBack at e
  rw [C.x3] at e
  have e2 : R 18 2 = 21 := C.kr.2.2.1
  have hh : ∀ b, f_X2_isHeld R M 18 x = some b → ((x < 0 ∨ nI 3 ≤ x) → b = 0) ∧ ∀ s, s < 3 → x = nI s → b = if M 21 s = 0 then 0 else 1 := fun b h => by
    unfold f_X2_isHeld at h
    rcases nI_cases x 3 (by omega) with ⟨s, hs, rfl⟩ | hx
    · have hno : ¬ (nI s < 0 ∨ nI 3 ≤ nI s) := fun z => by
        rcases z with z | z
        · exact absurd z (nI_pos (by omega))
        · exact absurd z (nI_ge hs (by omega))
      rw [if_neg (nI_pos (by omega)), nI_lit 3, if_neg (nI_ge hs (by omega))] at h
      obtain ⟨-, h⟩ := zck_e h
      rw [e2, ztn_nI (by omega)] at h
      refine ⟨fun z => absurd z hno, fun t ht z => ?_⟩
      have : s = t := nI_inj (by omega) (by omega) z
      subst this
      by_cases c : M 21 s = 0
      · rw [if_pos c] at h ⊢
        cases h
        rfl
      · rw [if_neg c] at h ⊢
        cases h
        rfl
    · have h0 : b = 0 := by
        by_cases c : x < 0
        · rw [if_pos c] at h
          cases h
          rfl
        · rcases hx with z | z
          · exact absurd z c
          · rw [if_neg c, nI_lit 3, if_pos z] at h
            cases h
            rfl
      refine ⟨fun _ => h0, fun t ht z => ?_⟩
      subst z
      rcases hx with z | z
      · exact absurd z (nI_pos (by omega))
      · exact absurd z (nI_ge ht (by omega))
  rw [C.x2] at e
  obtain ⟨r1, M2, L3, h1, e⟩ := zbd3_e e
  obtain ⟨b, hq, h1⟩ := zbd_e h1
  have hb := hh b hq
  have k : p.1 = if b = 0 then 0 else 1 := by
    rcases zif_e h1 with ⟨c, h1⟩ | ⟨c, h1⟩
    · cases h1
      rw [if_pos c]
      rw [if_pos rfl] at e
      cases e
      rfl
    · rw [if_neg c]
      obtain ⟨-, h1⟩ := zck_e h1
      obtain ⟨-, h1⟩ := zck_e h1
      obtain ⟨M6, L7, -, h1⟩ := zbd2_e h1
      cases h1
      rw [if_neg (by decide)] at e
      obtain ⟨M8, -, e⟩ := zbd_e e
      cases e
      rfl
  refine ⟨fun z => by rw [k, hb.1 z, if_pos rfl], fun s hs z => ?_⟩
  rw [k, hb.2 s hs z]
  by_cases c : M 21 s = 0
  · rw [if_pos c, if_pos rfl]
  · rw [if_neg c, if_neg (by decide)]
/-- what hold leaves on the reference's side -/
theorem fl_hold (hR : zMd R) {x : Int32} {p : Int32 × zM} (e : f_X12_hold R M 242 x = some p) : ((x < 0 ∨ nI 3 ≤ x) → p.2 281 = M 281) ∧ ∀ s, s < 3 → x = nI s → p.2 281 s = 1 ∧ ∀ k, k ≠ s → p.2 281 k = M 281 k := by
  have e59 : R 242 59 = 281 := hR.at rfl (by decide)
  unfold f_X12_hold at e
  rcases X12_in3 (x := x) with ⟨s, hs, rfl, ei⟩ | ⟨hx, ei⟩
  · rw [ei] at e
    obtain ⟨r, h1, e⟩ := zbd_e e
    cases h1
    rw [if_neg (by decide)] at e
    obtain ⟨-, e⟩ := zck_e e
    obtain ⟨M5, h5, e⟩ := zlt_e e
    obtain ⟨M6, h6, e⟩ := zbd_e e
    cases e
    rw [e59, ztn_nI (by omega)] at h5
    have e6 := fl_holdL hR h6
    refine ⟨fun z => ?_, fun t ht h => ?_⟩
    · rcases z with z | z
      · exact absurd z (nI_pos (by omega))
      · exact absurd z (nI_ge hs (by omega))
    · have : s = t := nI_inj (by omega) (by omega) h
      subst this
      show M6 281 s = 1 ∧ ∀ k, k ≠ s → M6 281 k = M 281 k
      rw [e6, h5]
      exact ⟨zup_same, fun k hk => zup_k hk⟩
  · rw [ei] at e
    obtain ⟨r, h1, e⟩ := zbd_e e
    cases h1
    rw [if_pos rfl] at e
    cases e
    refine ⟨fun _ => rfl, fun t ht h => ?_⟩
    subst h
    rcases hx with z | z
    · exact absurd z (nI_pos (by omega))
    · exact absurd z (nI_ge ht (by omega))
end FL

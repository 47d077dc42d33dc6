/-! THE CLAIM OUT OF ONE WALK OF THE LAW'S BODY. Your part is whole_start (and what it stands on); all else here is the same for every law, but numbers. -/
def R_law : String := "RingPursesLaw"
def lw_P (b : Addr) (xs : List Int32) (args : Array Value) (s : State) : Prop := args = #[.ref b] ∧ s.IntsAt b xs ∧ xs.length ≤ 3072 ∧ (Jvm.Cond.and given_1 narrow_1).before args s = true
def lw_Q (_ : Array Value) (s : State) (o : Outcome) (t : State) : Prop := o = .returned (some (.int 1)) ∧ Framed s o t [] 600000 7302250
def lw_Z (below : List Frame) (a : Array Value) (s : State) : State → Prop := fun t => ∃ o, t.status = .running ∧ Ended t below o ∧ lw_Q a s o t
/-- the law's own end, with 1 on the stack, nothing written that was there before, its room as the claim has it -/
theorem lw_ret {p : Program} {l : Launch} {e : Env} {s : State} {m : MethodId} {below : List Frame} {meth : Method} {c : Code} {b : Nat} (hx : p.tables.exec = Jvm.exec) (hb : c.code = code) (hr : meth.sig.returnType = ret) (hlocks : meth.locks = false) {pc : Nat} {H : Heap} {ls : Array Slot} (hdg : decode code pc = .ok (.ireturn, 1)) : W p l e room_1 s m #[Value.ref b] below meth c H [] 600000 7302250 (lw_Z below #[Value.ref b] s) (F0 m pc ls [.int 1]) := by
  intro T hT X
  obtain ⟨fs, hret, hrun, hended, hW, hframe⟩ := X.leave (v := some (.int 1)) (hlocks := hlocks) (fun h => by rw [hr] at h; cases h)
  have hmeth' : T.vm.method? m = some meth := X.method'
  refine ⟨T.setFrames fs, ?_, .returned (some (.int 1)), hrun, hended, rfl, ⟨_, rfl⟩, hW, hframe⟩
  jvm_step X.here [X.here.top, hx, hb, hdg, hmeth', hr, ret, narrow_b1]
  (try refine ⟨rfl, ?_⟩); (try refine ⟨rfl, ?_⟩)
  first | (intro acts; rw [hret _ acts rfl rfl rfl]) | rw [hret _ _ rfl rfl rfl]
  exact Steps.refl _
/-- what holds at the law's entry: the machine, the code, the tables' words (any of lw_tbl by 'hts w (by decide +kernel)'), the script of L ints xs at the cell b, what the Statement gives of the start (any of its parts by flat_of_before) -/
def lw_At (p : Program) (s : State) (m : MethodId) (meth : Method) (c : Code) (b L : Nat) (xs : Nat → Int32) : Prop :=
  p.tables.exec = Jvm.exec ∧ c.code = code ∧ meth.sig.returnType = ret ∧ c.maxLocals = 4 ∧ s.vm.findClass R_law = some m.cls ∧ (∀ w ∈ lw_tbl, w.before #[Value.ref b] s = true) ∧ va_X b L xs s s.heap ∧ b < s.heap.size ∧ meth.locks = false ∧ (Jvm.Cond.and given_1 narrow_1).before #[Value.ref b] s = true
theorem zword {w : Cond} {s : State} {A : Array Value} (hw : zwOK w = true) (h : w.before A s = true) : ∀ a : Array Value, w.before a s = true := by
  intro a
  unfold zwOK at hw
  rcases Bool.or_eq_true_iff.mp hw with hg | hn
  · exact word_at (State.WarmedH.refl s) (good_of_word hg) h
  · cases w <;> first
      | exact (Bool.false_ne_true hn).elim
      | exact va_Nw.use rfl (va_Nw.of rfl h)
      | (rename_i ty; cases ty <;> first | exact (Bool.false_ne_true hn).elim | exact va_AO.use (A := a) (va_AO.of h))
theorem zarr {s : State} {A : Array Value} {ty : FieldType} (h : (Cond.arrayClass ty).before A s = true) : ∃ cA : ClassId, ArrOfT s cA ty ∧ s.vm.findClass ("[" ++ ty.toString) = some cA := by
  obtain ⟨cA, k, comp, f1, f2, f3⟩ := Cond.arrayClass_spec h
  exact ⟨cA, fun n z => ⟨fun k h => (by cases h), k, f2, comp, f3⟩, f1⟩
def zStrT : Term := .string "RingPurses$Tokens" 25
theorem zst_el : ∀ j, j < 103 → Cond.eq (.elem (.field zStrT "java/lang/String" "value" "[B") (.int (Int32.ofNat j))) (.int (zBYT.getD j 0)) ∈ flatC (Jvm.Cond.and given_1 narrow_1) := by decide +kernel
theorem zst_ex : Cond.exactly zStrT "java/lang/String" ∈ flatC (Jvm.Cond.and given_1 narrow_1) := by decide +kernel
theorem zst_co : Cond.eq (.field zStrT "java/lang/String" "coder" "B") (.int 0) ∈ flatC (Jvm.Cond.and given_1 narrow_1) := by decide +kernel
theorem zst_ar : Cond.arrayOf (.field zStrT "java/lang/String" "value" "[B") .byte ∈ flatC (Jvm.Cond.and given_1 narrow_1) := by decide +kernel
theorem zst_le : Cond.eq (.length (.field zStrT "java/lang/String" "value" "[B")) (.int (Int32.ofNat 103)) ∈ flatC (Jvm.Cond.and given_1 narrow_1) := by decide +kernel
theorem zst_cs : Cond.eq (.static "java/lang/String" "COMPACT_STRINGS" "Z") (.int 1) ∈ flatC (Jvm.Cond.and given_1 narrow_1) := by decide +kernel
theorem zst_si : Cond.isRef (.static "jdk/internal/util/Preconditions" "SIOOBE_FORMATTER" "Ljava/util/function/BiFunction;") ∈ flatC (Jvm.Cond.and given_1 narrow_1) := by decide +kernel
theorem zStr_at {s : State} {A : Array Value} {B : Nat → Prop} (hts : ∀ w ∈ lw_tbl, w.before A s = true) (hgv : (Jvm.Cond.and given_1 narrow_1).before A s = true) (hA : ∀ a : Nat, a < s.heap.size → ¬ B a) : ∃ ks vs : Nat, vk_R RX9 25 zWORDS ks s ∧ vk_S 1 [103] [zBYT] (fun _ => ks) (fun _ => vs) B s s.heap ∧ va_Z "java/lang/String" "COMPACT_STRINGS" "Z" (.int 1) B s s.heap ∧ va_Zq "jdk/internal/util/Preconditions" "SIOOBE_FORMATTER" "Ljava/util/function/BiFunction;" B s s.heap := by
  have hs := flat_of_before _ hgv
  have i0 : ∀ i : Nat, i < 1 → i = 0 := fun i h => by omega
  obtain ⟨adK, adV, hS, hev⟩ := vk_Sof (args := A) (s := s) (N := 1) (tm := fun _ => zStrT) (len := [103]) (byt := [zBYT]) (A := B) (fun i hi => by rw [i0 i hi]; decide) (fun i hi => hs _ zst_ex) (fun i hi => hs _ zst_co) (fun i hi => hs _ zst_ar) (fun i hi => by rw [i0 i hi]; exact hs _ zst_le) (fun i hi j hj => by rw [i0 i hi] at hj ⊢; exact hs _ (zst_el j hj)) (fun i j hi hj hne => absurd ((i0 i hi).trans (i0 j hj).symm) hne) hA
  refine ⟨adK 0, adV 0, ?_, ⟨fun i hi => ?_, fun i j hi hj _ => (i0 i hi).trans (i0 j hj).symm⟩, ?_, ?_⟩
  · exact vk_R.of (A := A) (hts (.stringRef RX9 25 zWORDS) (zti_1 (List.mem_of_mem_drop (List.mem_of_mem_take (by rw [zche_1_3]; exact List.mem_of_getElem? (show zch_1_3[7]? = some (.stringRef "RingPurses$Tokens" 25 "house street turns pays earns shared seed if then else alike most round left right own gap day lot pot ") from rfl)))))) (hev 0 (by decide))
  · rw [i0 i hi]
    exact hS.1 0 (by decide)
  · exact va_Zof (hts (.laysStatic "java/lang/String" "COMPACT_STRINGS" "Z") (zti_1 (List.mem_of_mem_drop (List.mem_of_mem_take (by rw [zche_1_4]; exact List.mem_of_getElem? (show zch_1_4[1]? = some (.laysStatic "java/lang/String" "COMPACT_STRINGS" "Z") from rfl)))))) (hts _ (zcI_1_0 5 rfl rfl).1) (va_eqt (hs _ zst_cs)) hA
  · exact va_Zqof (hts (.laysStatic "jdk/internal/util/Preconditions" "SIOOBE_FORMATTER" "Ljava/util/function/BiFunction;") (zti_1 (List.mem_of_mem_drop (List.mem_of_mem_take (by rw [zche_1_5]; exact List.mem_of_getElem? (show zch_1_5[1]? = some (.laysStatic "jdk/internal/util/Preconditions" "SIOOBE_FORMATTER" "Ljava/util/function/BiFunction;") from rfl)))))) (hts _ (zcI_1_0 7 rfl rfl).1) (hs _ zst_si) hA
theorem zKn_at {s : State} {A : Array Value} (hts : ∀ w ∈ lw_tbl, w.before A s = true) : ∃ D : va_G, ∀ (k : Nat) (q : vw_C), zcl[k]? = some q → u_Kn s q.1 q.2.1 q.2.2 (D.1 k) (D.2 k) := by
  have h0 : ∀ k : Nat, ∃ r : ClassId × (Nat → Nat), ∀ q : vw_C, zcl[k]? = some q → u_Kn s q.1 q.2.1 q.2.2 r.1 r.2 := by
    intro k
    match k with
    | 0 =>
      obtain ⟨c, iS, h⟩ := u_known (C := RX0) (T := TX0) (N := 4) (n := 4) hts (fun w hw => (zc_X0.2.2.1 w hw).1) (hts _ zqi_X0.1)
      exact ⟨(c, iS), fun q hq => by cases hq; exact h⟩
    | 1 =>
      obtain ⟨c, iS, h⟩ := u_known (C := RX1) (T := TX1) (N := 2) (n := 2) hts (fun w hw => (zc_X1.2.2.1 w hw).1) (hts _ zqi_X1.1)
      exact ⟨(c, iS), fun q hq => by cases hq; exact h⟩
    | 2 =>
      obtain ⟨c, iS, h⟩ := u_known (C := RX2) (T := TX2) (N := 5) (n := 5) hts (fun w hw => (zc_X2.2.2.1 w hw).1) (hts _ zqi_X2.1)
      exact ⟨(c, iS), fun q hq => by cases hq; exact h⟩
    | 3 =>
      obtain ⟨c, iS, h⟩ := u_known (C := RX3) (T := TX3) (N := 5) (n := 5) hts (fun w hw => (zc_X3.2.2.1 w hw).1) (hts _ zqi_X3.1)
      exact ⟨(c, iS), fun q hq => by cases hq; exact h⟩
    | 4 =>
      obtain ⟨c, iS, h⟩ := u_known (C := RX4) (T := TX4) (N := 2) (n := 2) hts (fun w hw => (zc_X4.2.2.1 w hw).1) (hts _ zqi_X4.1)
      exact ⟨(c, iS), fun q hq => by cases hq; exact h⟩
    | 5 =>
      obtain ⟨c, iS, h⟩ := u_known (C := RX5) (T := TX5) (N := 10) (n := 10) hts (fun w hw => (zc_X5.2.2.1 w hw).1) (hts _ zqi_X5.1)
      exact ⟨(c, iS), fun q hq => by cases hq; exact h⟩
    | 6 =>
      obtain ⟨c, iS, h⟩ := u_known (C := RX6) (T := TX6) (N := 8) (n := 8) hts (fun w hw => (zc_X6.2.2.1 w hw).1) (hts _ zqi_X6.1)
      exact ⟨(c, iS), fun q hq => by cases hq; exact h⟩
    | 7 =>
      obtain ⟨c, iS, h⟩ := u_known (C := RX7) (T := TX7) (N := 11) (n := 11) hts (fun w hw => (zc_X7.2.2.1 w hw).1) (hts _ zqi_X7.1)
      exact ⟨(c, iS), fun q hq => by cases hq; exact h⟩
    | 8 =>
      obtain ⟨c, iS, h⟩ := u_known (C := RX8) (T := TX8) (N := 2) (n := 2) hts (fun w hw => (zc_X8.2.2.1 w hw).1) (hts _ zqi_X8.1)
      exact ⟨(c, iS), fun q hq => by cases hq; exact h⟩
    | 9 =>
      obtain ⟨c, iS, h⟩ := u_known (C := RX9) (T := TX9) (N := 6) (n := 6) hts (fun w hw => (zc_X9.2.2.1 w hw).1) (hts _ zqi_X9.1)
      exact ⟨(c, iS), fun q hq => by cases hq; exact h⟩
    | 10 =>
      obtain ⟨c, iS, h⟩ := u_known (C := RX10) (T := TX10) (N := 11) (n := 11) hts (fun w hw => (zc_X10.2.2.1 w hw).1) (hts _ zqi_X10.1)
      exact ⟨(c, iS), fun q hq => by cases hq; exact h⟩
    | 11 =>
      obtain ⟨c, iS, h⟩ := u_known (C := RX11) (T := TX11) (N := 11) (n := 11) hts (fun w hw => (zc_X11.2.2.1 w hw).1) (hts _ zqi_X11.1)
      exact ⟨(c, iS), fun q hq => by cases hq; exact h⟩
    | 12 =>
      obtain ⟨c, iS, h⟩ := u_known (C := RX12) (T := TX12) (N := 61) (n := 61) hts (fun w hw => (zc_X12.2.2.1 w hw).1) (hts _ zqi_X12.1)
      exact ⟨(c, iS), fun q hq => by cases hq; exact h⟩
    | k + 13 => exact ⟨(0, fun _ => 0), fun q hq => by simp [zcl] at hq⟩
  obtain ⟨D, hD⟩ := Classical.axiomOfChoice h0
  exact ⟨(fun k => (D k).1, fun k => (D k).2), fun k q hq => hD k q hq⟩
theorem zsl_KF : zsl KF ≤ 7302250 := by decide +kernel
/-- from the entry, for every script of at most 3072 ints, the law comes to its end with true -/
theorem whole_start {p : Program} {e : Env} {s : State} {m : MethodId} {below : List Frame} {meth : Method} {c : Code} (l : Launch) (hflags : l.flags = flags0) {b L : Nat} {xs : Nat → Int32} (hL : L ≤ 3072) (hname : meth.name = x.name) (C0 : lw_At p s m meth c b L xs) : W p l e room_1 s m #[Value.ref b] below meth c s.heap [] 0 0 (lw_Z below #[Value.ref b] s) (entryFrame m ([Value.ref b] : List Value).toArray 4) := by
  obtain ⟨hx, hb, hr, hml, hown, hts, hX, hbl, hlocks, hgv⟩ := id C0
  obtain ⟨D, hD⟩ := zKn_at hts
  obtain ⟨cI, aI, nI_⟩ := zarr (hts _ zqa_int.1)
  obtain ⟨cB, aB, nB⟩ := zarr (hts _ zqa_byte.1)
  obtain ⟨cZ, aZ, nZ⟩ := zarr (hts _ zqa_boolean.1)
  obtain ⟨cL, aL, nL⟩ := zarr (hts _ zqa_long.1)
  obtain ⟨comp, cO, kO, o1, o2, o3, o4, o5⟩ := Cond.arrayOver_spec (hts _ zqo.1)
  obtain ⟨ks, vs, s1, s2, s3, s4⟩ := zStr_at (B := fun q => s.heap.size ≤ q) hts hgv (fun a ha => Nat.not_le.mpr ha)
  obtain ⟨M1, L1, R1, kk⟩ := lw_body (G := (b, s.heap.size, D, fun t => if t = 20 then cI else if t = 21 then cB else if t = 22 then cZ else if t = 23 then cL else cO, xs, L, ks, vs)) hL
  generalize hG : ((b, s.heap.size, D, fun t => if t = 20 then cI else if t = 21 then cB else if t = 22 then cZ else if t = 23 then cL else cO, xs, L, ks, vs) : zG) = G at kk
  have hK : va_K (zGD G) zcl (ztys G) s := by
    subst hG
    refine ⟨hD, fun k q hq => ?_⟩
    match k, hq with
    | 0, hq => cases hq; exact ⟨aI, nI_⟩
    | 1, hq => cases hq; exact ⟨aB, nB⟩
    | 2, hq => cases hq; exact ⟨aZ, nZ⟩
    | 3, hq => cases hq; exact ⟨aL, nL⟩
    | 4, hq => cases hq; exact ⟨fun n z => ⟨fun k h => (by cases h), kO, o3, comp, o4⟩, kO, comp, o3, o4, o1, o5⟩
    | k + 5, hq => simp [ztys] at hq
  have hTB : zTB s := fun w hw => zword hw.2 (hts w hw.1)
  have hXG : va_X (zGb G) (zGn G) (zGx G) s s.heap := by subst hG; exact hX
  have hbG : zGb G < zGB G := by subst hG; exact hbl
  have hStr : zStr G s s.heap := by subst hG; exact ⟨s1, s2, s3, s4⟩
  have hGB : zGB G = s.heap.size := by subst hG; rfl
  have hGb : zad G 1 = b := by subst hG; rfl
  have C : zCtx G mt_L p room_1 s m meth c := ⟨hx, hb, hml, hr, hown, hname, hlocks, ⟨hK, hTB, hXG, hbG, hStr, Nat.le_of_eq hGB⟩, by decide, by decide⟩
  have hz : zwl G (fun _ _ => 0, fun _ _ => 0, zRl [], KF.take 2) = [] := List.eq_nil_of_length_eq_zero (by rw [zwl_len]; rfl)
  have Wd : zW G (fun _ _ => 0, fun _ _ => 0, zRl [], KF.take 2) s s.heap [] := by
    refine ⟨⟨⟨by rw [hGB]; rfl, rfl, rfl⟩, ?_⟩, va_S.rf⟩
    rw [hz]
    exact fun k q h => by simp at h
  have hl := lv_entry ([Value.ref b]) (n := 4) (Nat.le_of_ble_eq_true rfl)
  rw [lg_entry_eq]
  generalize (lg_sl ([Value.ref b]) ++ List.replicate (4 - (lg_sl ([Value.ref b])).length) Slot.unset).toArray = ls at hl ⊢
  have hl : lv_has ls 4 (zq G [(0, .ref 1)]) := by
    show lv_has ls 4 [(0, .ref (zad G 1))]
    rw [hGb]
    exact hl
  have e2 : (KF.take 2).length = 2 := KF_ln (by decide)
  refine kk.2 p l e room_1 s m #[Value.ref b] below meth c s.heap [] 0 0 (lw_Z below #[Value.ref b] s) ls C Wd hl ⟨?_, ?_⟩ ?_
  · show 0 + KF.length ≤ 600000 + (KF.take 2).length
    rw [KF_len]
    omega
  · show 0 + zsl KF ≤ 7302250 + zsl (KF.take 2)
    have := zsl_KF
    omega
  · intro H1 locs1 ls1 pc1 cells1 slots1 hret Wd1 hc1 hs1
    have hc1 : cells1 + (KF.take 2).length = 0 + KF.length := hc1
    have hs1 : slots1 + zsl (KF.take 2) = 0 + zsl KF := hs1
    rw [KF_len, e2] at hc1
    have hz2 := zsl_KF
    refine va_forget (fun q hq => by have := Wd1.2.2.2 q hq; rw [← hGB]; exact this) ?_
    refine W.widen (k := 600000) (n := 7302250) (by omega) (by omega) ?_
    exact lw_ret hx hb hr hlocks hret.1
set_option maxHeartbeats 4000000 in
theorem lw_walk (l : Launch) (hflags : l.flags = flags0) (b : Addr) (xs : List Int32) : MetFree l x (headSpec (Jvm.Cond.code x code maxLocals ret :: tables_1) room_1) (lw_P b xs) (fun _ _ _ _ _ => True) lw_Q := by
  refine MetFree.of_bodyS (code := code) (maxLocals := maxLocals) (ret := ret) (by decide) ?_ ?_
  · intro args s m h hn
    obtain ⟨meth, c, h1, h2, h3, h4, h5, h6, -, -⟩ := Cond.code_spec hn (atoms_spec (ws := Jvm.Cond.code x code maxLocals ret :: tables_1) h _ List.mem_cons_self)
    exact ⟨meth, c, h1, h2, h3, h4, h5, h6⟩
  · intro p e s m args below meth c s₁ B hml0 hP _
    obtain ⟨rfl, hx, hbd, hgv⟩ := hP
    obtain ⟨scr, harrAt, hlist, hof, hsmall⟩ := hx
    obtain ⟨hcb, hkn, -, -⟩ := State.arrayAt?_spec harrAt
    have hown : s.vm.findClass R_law = some m.cls := findClass_of_methodNamed B.named
    have hts0 : ∀ c ∈ (Jvm.Cond.code x code maxLocals ret :: tables_1), c.before #[Value.ref b] s = true := atoms_spec (ws := Jvm.Cond.code x code maxLocals ret :: tables_1) B.pre
    have hts : ∀ w ∈ lw_tbl, w.before #[Value.ref b] s = true := k2_hts_sels lw_privs (fun w hw => hts0 w (List.mem_cons_of_mem _ hw)) lw_privs_ok
    have hml : c.maxLocals = 4 := B.maxLocals_eq (hts0 _ List.mem_cons_self)
    have X₀ : Stand p l e room_1 s m #[Value.ref b] below meth c s₁ [] 0 0 := Stand.of_body B
    have hh0 : s₁.heap = s.heap := by rw [B.state]; rfl
    have hsz : scr.slots.size = xs.length := by rw [← Array.length_toList, hlist, List.length_map]
    have hval : ∀ j : Nat, j < xs.length → scr.slots[j]? = some (.int (xs.getD j 0)) := fun j hj => by
      rw [← Array.getElem?_toList, hlist]
      simp [hj]
    have hbl : b < s.heap.size := (Array.getElem?_eq_some_iff.mp hcb).1
    have hX : va_X b xs.length (fun j => xs.getD j 0) s s.heap := ⟨scr, hcb, hof, hkn, hsz, hval⟩
    have K : W p l e room_1 s m #[Value.ref b] below meth c s₁.heap [] 0 0 (lw_Z below #[Value.ref b] s) (entryFrame m ([Value.ref b] : List Value).toArray 4) := by
      rw [hh0]
      exact whole_start l hflags hbd (name_of_methodNamed B.named B.method).1 ⟨B.exec, B.bytes, B.returns, hml, hown, hts, hX, hbl, B.notSynchronized, hgv⟩
    obtain ⟨t, a1, o, b1, b2, b3⟩ := K s₁ rfl X₀
    exact ⟨t, o, a1, b1, b2, b3⟩
theorem lw_pre_spec {args : Array Value} {s : State} (h : (Jvm.Cond.and given_1 narrow_1).before args s = true) (hr : rest_1_c.before args s = true) : ∃ (b : Addr) (xs : List Int32), lw_P b xs args s := by
  have hs := flat_of_before _ h
  have hq := flat_of_before _ hr
  have hc : (Cond.count 1).before args s = true := hs _ (by decide +kernel)
  have harr : (Cond.arrayOf (.arg 0) .int).before args s = true := hs _ (by decide +kernel)
  have hle : (Cond.le (.length (.arg 0)) (.int 3072)).before args s = true := hs _ (by decide +kernel)
  have hlen : (Cond.isInt (.length (.arg 0))).before args s = true := hq _ (by decide +kernel)
  have hall : (Cond.all (.arg 0) (.isInt (.elem (.arg 0) (.index 0)))).before args s = true := hq _ (by decide +kernel)
  obtain ⟨b, xs, hb, hx⟩ := State.ints_of_pre rfl harr hlen hall
  have hsm : xs.length < 2 ^ 31 := hx.choose_spec.2.2.2
  have hev : (Term.length (.arg 0)).eval args s none [] s = some (.int xs.length.toInt32) := hx.length_eval hb
  have hv := Cond.le_ints hev (show (Term.int 3072).eval args s none [] s = some (.int 3072) from rfl)
  have hd : xs.length.toInt32 ≤ 3072 := by
    simpa [Cond.before, Cond.holds, hv] using hle
  have hN : xs.length ≤ 3072 := (Int32.ofNat_le_ofNat hsm (by decide)).mp (show Int32.ofNat xs.length ≤ Int32.ofNat 3072 from hd)
  exact ⟨b, xs, Cond.one_arg hc (show args[0]? = some (.ref b) from hb), hx, hN, h⟩
theorem lw_comes (l : Launch) (hflags : l.flags = flags0) : Comes l x (Jvm.Cond.code x code maxLocals ret :: tables_1) room_1 (fun tb e args s => Calls_1 tb e args s ∧ rest_1 tb e args s ∧ Pre_1 tb e args s)
    (fun _ _ args s o t => lw_Q args s o t) := by
  intro p e ha hc hk s m args below hf hfit hheap happ hpre
  obtain ⟨b, xs, hP⟩ := lw_pre_spec hpre.2.2 hpre.2.1
  obtain ⟨k, o, h1, h2, h3, hQ⟩ := lw_walk l hflags b xs p e ha hc hk s m args below hf ((Spec.applies_iff_loose hf).mp happ).1 hP trivial
  exact ⟨k, o, h1, h2, h3, hQ⟩
theorem lw_frame {s t : State} {o : Outcome} {args : Array Value} (h : Framed s o t [] 600000 7302250) :
    Framed s o t (fieldLocs frame_1_writes args s ++ arrayLocs frame_1_arrays args s ++ staticLocs frame_1_statics s) 600000 7302250 := h
theorem lw_limb (L : Cond) (hL : ∀ (args : Array Value) (s t : State), L.after args s (.returned (some (.int 1))) t = true) :
    ArmFor flags0 classFile x code maxLocals ret World_1 tables_1 room_1 Calls_1 rest_1 Pre_1
      (fun tb e a s o t => postC L tb e a s o t ∧ Framed s o t (fieldLocs frame_1_writes a s ++ arrayLocs frame_1_arrays a s ++ staticLocs frame_1_statics s) 600000 7302250) := by
  intro l hflags _ _ p e ha hc hk s m args below hf hfit hheap happ hpre
  obtain ⟨k, o, h1, h2, h3, rfl, hF⟩ := lw_comes l hflags p e ha hc hk s m args below hf hfit hheap happ hpre
  exact ⟨k, _, h1, h2, h3, hL args s _, lw_frame hF⟩
theorem i_vc : Claimed_1_1 ∧ Claimed_1_2 := ⟨lw_limb limb_1_1 (fun args s t => by simp [limb_1_1, Cond.after, Cond.holds, Cond.value]), lw_limb limb_1_2 (fun args s t => Cond.after_iff.mpr (by
  first | (rw [show limb_1_2 = Cond.eq .result (.int 1) from rfl, Cond.eq_ints (x := 1) (y := 1) rfl rfl]; simp; done) | (simp [limb_1_2, Cond.value, Term.eval]; done)))⟩

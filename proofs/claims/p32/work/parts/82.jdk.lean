/-! THE JDK's METHODS on the text of words -/
def zJQ (G : zG) (S : zS) (r : Option Value) : Array Value → State → Outcome → State → Prop := fun _ st oc u => (oc = .returned r ∧ zE G S u.heap) ∧ va_F (zA G) st u
/-- a method's contract, its words as the machine has them; it writes nothing -/
def zJ (G : zG) (t : zMT) (as : List Value) (S : zS) (r : Option Value) : Prop := ∀ l : Launch, Met l (zy t) [Cond.code (zy t) (zc t) (zn t) (zr t)] ({ frames := zfr t, cells := 0, slots := 0, locals := zlo t }) (va_Pc as (zB G S)) (zJQ G S r) 0 0 (zA G)
theorem zJ_of {G : zG} {t : zMT} {as : List Value} {S : zS} {r : Option Value} (hy : plainName (zy t).cls = true) (ho : zo t = (zy t).cls) (hn : (lg_sl as).length ≤ zn t)
    (h : ∀ (p : Program) (l : Launch) (e : Env) (R : Room) (s : State) (m : MethodId) (args : Array Value) (below : List Frame) (meth : Method) (c : Code) (Q : State → Prop) (lsM : Array Slot), zCtx G t p R s m meth c → zW G S s s.heap [] → lv_has lsM (zn t) (lv_args 0 as) →
      (∀ (H1 : Heap) (locs1 : List Loc) (ls1 : Array Slot) (pc1 : Nat), zRetOK t pc1 r → zW G S s H1 locs1 → W p l e R s m args below meth c H1 locs1 0 0 Q (F0 m pc1 ls1 r.toList)) → W p l e R s m args below meth c s.heap [] 0 0 Q (F0 m 0 lsM [])) : zJ G t as S r := by
  intro l
  refine Met.ofW (cc := zc t) (maxL := zn t) (ret := zr t) hy rfl ?_
  intro p e s m args below meth c s₁ B hml hv
  obtain ⟨rfl, hE, hK, hT, hX, hb, hs⟩ := hv
  have hown : s.vm.findClass (zo t) = some m.cls := by rw [ho]; exact findClass_of_methodNamed B.named
  have hname : meth.name = (zy t).name := (name_of_methodNamed B.named B.method).1
  have hsz : zGB G ≤ s.heap.size := by rw [hE.1.1]; omega
  have C : zCtx G t p ({ frames := zfr t, cells := 0, slots := 0, locals := zlo t } : Room) s m meth c := ⟨B.exec, B.bytes, hml, B.returns, hown, hname, B.notSynchronized, ⟨hK, hT, hX, hb, hs, hsz⟩, Nat.le_refl _, Nat.le_refl _⟩
  have hl := lv_entry as (n := zn t) hn
  rw [lg_entry_eq]
  refine h p l e _ s m _ below meth c _ _ C ⟨hE, va_S.rf⟩ hl ?_
  intro H1 locs1 ls1 pc1 hret Wd
  have fin : ∀ u : State, u.heap = H1 → zJQ G S r as.toArray s (.returned r) u := fun u hu => ⟨⟨rfl, by rw [hu]; exact Wd.1⟩, Wd.2.F hu⟩
  match r, hret, fin with
  | none, hret, fin => exact W.vret B.exec B.bytes (B.returns.trans hret.2) (fun u hu _ => fin u hu) Wd.2.2.2 hret.1
  | some (.int x), hret, fin =>
    obtain ⟨hd, ty, e1, e2⟩ := hret
    exact W.zret B.exec B.bytes (B.returns.trans e1) e2 (fun u hu _ => fin u hu) Wd.2.2.2 hd
  | some (.long x), hret, fin => exact W.lret B.exec B.bytes (B.returns.trans hret.2) (fun u hu _ => fin u hu) Wd.2.2.2 hret.1
section JD
variable {p : Program} {l : Launch} {e : Env} {R : Room} {s : State} {m : MethodId} {args : Array Value} {below : List Frame} {meth : Method} {c : Code} {H : Heap} {locs : List Loc} {cells slots : Nat} {Q : State → Prop}
variable {G : zG} {S : zS} {t t2 : zMT} {r1 : Option Value} {pc n idx : Nat} {ls : Array Slot} {rest As : List Value}
theorem zJ_go {a : Array Value} {st0 : List Value} (hr : va_Run p l e R s m args below meth c H locs cells slots 0 0 (F0 m pc ls st0) rest (zJQ G S r1 a) (zA G)) (Wd : zW G S s H locs)
    (kk : ∀ (H1 : Heap) (locs1 : List Loc), zW G S s H1 locs1 → W p l e R s m args below meth c H1 locs1 cells slots Q (F0 m (pc + 3) ls (r1.toList ++ rest))) : W p l e R s m args below meth c H locs cells slots Q (F0 m pc ls st0) := by
  intro T hT X
  obtain ⟨v, st₀, t, T', L, h0, X', hL, e1, e2, ⟨⟨hv, hb⟩, hz, hk⟩, st⟩ := hr T hT X
  obtain rfl : v = r1 := by simpa using hv
  rw [h0] at hz hk
  have hS := Wd.2
  obtain ⟨t2, a1, b1⟩ := kk T'.heap (locs ++ L) ⟨by rw [e1]; exact hb, Nat.le_trans hS.1 (by rw [e1]; exact hz), fun q h1 h2 => by rw [e1, hk q (Nat.lt_of_lt_of_le h1 hS.1) h2]; exact hS.2.1 q h1 h2, fun q hq => by
      rcases List.mem_append.mp hq with h | h
      · exact hS.2.2 q h
      · exact hL q h⟩ T' rfl X'
  exact ⟨t2, st t2 a1, b1⟩
theorem zJ_S (C : zCtx G t p R s m meth c) (Wd : zW G S s H locs) (hl : zIn (.methodLink (zo t) idx (zy t2))) (hm : zMthS t2 n) (hroom : zfr t2 + 1 ≤ zfr t ∧ 8 + (zn t2 + 11) + zlo t2 ≤ zlo t) (hn : As.length = n) (hsz : ls.size = zn t) (hcat : (rest.map fun v => v.category).sum ≤ 8) (hcs : cells ≤ R.cells ∧ slots ≤ R.slots) (hd : decode (zc t) pc = .ok (.invokestatic idx, 3)) (h : zJ G t2 As S r1)
    (kk : ∀ (H1 : Heap) (locs1 : List Loc), zW G S s H1 locs1 → W p l e R s m args below meth c H1 locs1 cells slots Q (F0 m (pc + 3) ls (r1.toList ++ rest))) : W p l e R s m args below meth c H locs cells slots Q (F0 m pc ls (As.reverse ++ rest)) := by
  have hTB := C.2.2.2.2.2.2.2.1.2.1
  have hfr := C.2.2.2.2.2.2.2.2
  have hS : CallFix p m c (zc t) (zn t) s args [] (zo t) := ⟨C.1, C.2.1, C.2.2.1, C.2.2.2.2.1, fun w hw => by cases hw⟩
  have hpre : PreS s H (va_Pc As (zB G S)) As := ⟨zblind, fun U hU hW => ⟨rfl, zB_call C Wd hU hW⟩⟩
  have hws : ∀ w ∈ [Cond.code (zy t2) (zc t2) (zn t2) (zr t2)], ∀ (a' : Array Value) (U : State), s.WarmedH U.vm → w.before a' U = true := fun w hw a' U hW => by
    rw [List.mem_singleton.mp hw]
    exact (zTB.warm hW hTB) _ hm.1.1 a'
  refine zJ_go (a := As.toArray) ?_ Wd kk
  exact va_runS hS (h l) (n := n) (bytes := zc t2) (maxL := zn t2) (ret := zr t2) ⟨⟨rfl, rfl, Nat.le_trans hroom.1 hfr.1, Nat.le_trans hroom.2 hfr.2, hws, List.mem_singleton.mpr rfl, hTB _ hm.1.1 args, hTB _ hm.1.2.1 args, hm.1.2.2.1, hm.1.par, hTB _ hl args⟩, hTB _ hm.2 args⟩ hpre rfl hn hsz rfl (lv_room hcat) hd hcs
theorem zJ_V (C : zCtx G t p R s m meth c) (Wd : zW G S s H locs) (hl : zIn (.methodLink (zo t) idx (zy t2))) (hm : zMthV t2 n) (hc0 : (zy t2).cls = "java/lang/String") (hroom : zfr t2 + 1 ≤ zfr t ∧ 8 + (zn t2 + 11) + zlo t2 ≤ zlo t) (hn : As.length = n) (hsz : ls.size = zn t) (hcat : (rest.map fun v => v.category).sum ≤ 8) (hcs : cells ≤ R.cells ∧ slots ≤ R.slots) (hd : decode (zc t) pc = .ok (.invokevirtual idx, 3)) (h : zJ G t2 (.ref (zGs G) :: As) S r1)
    (kk : ∀ (H1 : Heap) (locs1 : List Loc), zW G S s H1 locs1 → W p l e R s m args below meth c H1 locs1 cells slots Q (F0 m (pc + 3) ls (r1.toList ++ rest))) : W p l e R s m args below meth c H locs cells slots Q (F0 m pc ls (As.reverse ++ .ref (zGs G) :: rest)) := by
  have hTB := C.2.2.2.2.2.2.2.1.2.1
  have hfr := C.2.2.2.2.2.2.2.2
  have hstr := C.2.2.2.2.2.2.2.1.2.2.2.2.1
  have hS : CallFix p m c (zc t) (zn t) s args [] (zo t) := ⟨C.1, C.2.1, C.2.2.1, C.2.2.2.2.1, fun w hw => by cases hw⟩
  have hrc : ∃ cell : Cell, H[zGs G]? = some cell ∧ cell.vm.isStatics = false ∧ s.vm.findClass (zy t2).cls = some cell.cls := by
    rw [hc0]
    exact vk_recv hstr.2.1 (i := 0) (by decide) Wd.2
  have hpre : PreV s H (zy t2).cls (zGs G) (va_Pc (Value.ref (zGs G) :: As) (zB G S)) As := ⟨zblind, hrc, fun U hU hW => ⟨rfl, zB_call C Wd hU hW⟩⟩
  have hws : ∀ w ∈ [Cond.code (zy t2) (zc t2) (zn t2) (zr t2)], ∀ (a' : Array Value) (U : State), s.WarmedH U.vm → w.before a' U = true := fun w hw a' U hW => by
    rw [List.mem_singleton.mp hw]
    exact (zTB.warm hW hTB) _ hm.1.1 a'
  refine zJ_go (a := (Value.ref (zGs G) :: As).toArray) ?_ Wd kk
  exact va_runV hS (h l) (C := (zy t2).cls) (n := n) (bytes := zc t2) (maxL := zn t2) (ret := zr t2) ⟨⟨rfl, rfl, Nat.le_trans hroom.1 hfr.1, Nat.le_trans hroom.2 hfr.2, hws, List.mem_singleton.mpr rfl, hTB _ hm.1.1 args, hTB _ hm.1.2.1 args, hm.1.2.2.1, hm.1.par, hTB _ hl args⟩, hTB _ hm.2.1 args, hTB _ hm.2.2 args⟩ hpre rfl hn hsz rfl (lv_room hcat) hd hcs
end JD
abbrev mt_J3_checkIndex_8e157 : zMT := (RJ3, yJ3_checkIndex_8e157, cJ3_checkIndex_8e157, 3, (some .int), 0, 0)
theorem zm_J3_checkIndex_8e157 : zMthS mt_J3_checkIndex_8e157 3 := ⟨⟨(zcI_1_5 4 rfl rfl), (zcI_1_0 7 rfl rfl), ⟨by decide, by decide⟩, rfl⟩, (zcI_1_5 3 rfl rfl)⟩
abbrev mt_J0_checkIndex_df160 : zMT := (RJ0, yJ0_checkIndex_df160, cJ0_checkIndex_df160, 2, none, 1, 22)
theorem zm_J0_checkIndex_df160 : zMthS mt_J0_checkIndex_df160 2 := ⟨⟨(zcI_1_4 15 rfl rfl), (zcI_1_0 5 rfl rfl), ⟨by decide, by decide⟩, rfl⟩, (zcI_1_4 14 rfl rfl)⟩
abbrev mt_J1_charAt_3b067 : zMT := (RJ1, yJ1_charAt_3b067, cJ1_charAt_3b067, 2, (some .char), 2, 43)
theorem zm_J1_charAt_3b067 : zMthS mt_J1_charAt_3b067 2 := ⟨⟨(zcI_1_4 12 rfl rfl), (zcI_1_0 6 rfl rfl), ⟨by decide, by decide⟩, rfl⟩, (zcI_1_4 11 rfl rfl)⟩
abbrev mt_J0_isLatin1_aae02 : zMT := (RJ0, yJ0_isLatin1_aae02, cJ0_isLatin1_aae02, 1, (some .boolean), 0, 0)
theorem zm_J0_isLatin1_aae02 : zMthV mt_J0_isLatin1_aae02 0 := ⟨⟨(zcI_1_4 9 rfl rfl), (zcI_1_0 5 rfl rfl), ⟨by decide, by decide⟩, rfl⟩, (zcI_1_4 7 rfl rfl), (zcI_1_4 8 rfl rfl)⟩
abbrev mt_J0_charAt_5068e : zMT := (RJ0, yJ0_charAt_5068e, cJ0_charAt_5068e, 2, (some .char), 3, 64)
theorem zm_J0_charAt_5068e : zMthV mt_J0_charAt_5068e 1 := ⟨⟨(zcI_1_4 5 rfl rfl), (zcI_1_0 5 rfl rfl), ⟨by decide, by decide⟩, rfl⟩, (zcI_1_4 3 rfl rfl), (zcI_1_4 4 rfl rfl)⟩
abbrev mt_J0_coder_7d493 : zMT := (RJ0, yJ0_coder_7d493, cJ0_coder_7d493, 1, (some .byte), 0, 0)
theorem zm_J0_coder_7d493 : zMthV mt_J0_coder_7d493 0 := ⟨⟨(zcI_1_3 15 rfl rfl), (zcI_1_0 5 rfl rfl), ⟨by decide, by decide⟩, rfl⟩, (zcI_1_3 13 rfl rfl), (zcI_1_3 14 rfl rfl)⟩
abbrev mt_J0_length_8abf5 : zMT := (RJ0, yJ0_length_8abf5, cJ0_length_8abf5, 1, (some .int), 1, 20)
theorem zm_J0_length_8abf5 : zMthV mt_J0_length_8abf5 0 := ⟨⟨(zcI_1_3 11 rfl rfl), (zcI_1_0 5 rfl rfl), ⟨by decide, by decide⟩, rfl⟩, (zcI_1_3 9 rfl rfl), (zcI_1_3 10 rfl rfl)⟩
section JM
variable {G : zG} {S : zS}
theorem zj_J3_checkIndex_8e157 {i n : Int32} {f : Value} (hf : f = .null ∨ ∃ q, f = .ref q) (h0 : ¬ i < 0) (h1 : i < n) : zJ G mt_J3_checkIndex_8e157 [.int i, .int n, f] S (some (.int i)) := by
  have hn : (lg_sl [Value.int i, .int n, f]).length ≤ 3 := by
    rcases hf with rfl | ⟨q, rfl⟩ <;> exact Nat.le_of_ble_eq_true rfl
  refine zJ_of rfl rfl hn fun p l e R s m args below meth c Q ls C Wd hl hk => ?_
  refine lv_iload_n C.1 C.2.1 zd_J3_checkIndex_8e157_0.1.1.1 rfl (lv_at hl 0 rfl) ?_
  refine lv_if_lt C.1 C.2.1 zd_J3_checkIndex_8e157_0.1.1.2.1 (show ((1 : Nat) : Int) + 8 = ((9 : Nat) : Int) from rfl) (fun z => absurd z h0) (fun _ => ?_)
  refine lv_iload_n C.1 C.2.1 zd_J3_checkIndex_8e157_0.1.1.2.2 rfl (lv_at hl 0 rfl) ?_
  refine lv_iload_n C.1 C.2.1 zd_J3_checkIndex_8e157_0.1.2.1 rfl (lv_at hl 1 rfl) ?_
  refine lv_icmp_lt C.1 C.2.1 zd_J3_checkIndex_8e157_0.1.2.2.1 (show ((6 : Nat) : Int) + 10 = ((16 : Nat) : Int) from rfl) (fun _ => ?_) (fun z => absurd h1 z)
  refine lv_iload_n C.1 C.2.1 zd_J3_checkIndex_8e157_0.2.2.2.1 rfl (lv_at hl 0 rfl) ?_
  exact hk _ _ _ 17 ⟨zd_J3_checkIndex_8e157_0.2.2.2.2, .int, rfl, rfl⟩ Wd
theorem zj_J0_checkIndex_df160 {i n : Int32} (h0 : ¬ i < 0) (h1 : i < n) : zJ G mt_J0_checkIndex_df160 [.int i, .int n] S none := by
  refine zJ_of rfl rfl (Nat.le_of_ble_eq_true rfl) fun p l e R s m args below meth c Q ls C Wd hl hk => ?_
  have hstr := C.2.2.2.2.2.2.2.1.2.2.2.2.1
  refine lv_iload_n C.1 C.2.1 zd_J0_checkIndex_df160_0.1.1 rfl (lv_at hl 0 rfl) ?_
  refine lv_iload_n C.1 C.2.1 zd_J0_checkIndex_df160_0.1.2.1 rfl (lv_at hl 1 rfl) ?_
  have key : ∀ f : Value, (f = .null ∨ ∃ q, f = .ref q) → va_Z "jdk/internal/util/Preconditions" "SIOOBE_FORMATTER" "Ljava/util/function/BiFunction;" f (zA G) s s.heap → W p l e R s m args below meth c s.heap [] 0 0 Q (F0 m 2 ls [.int n, .int i]) := by
    intro f hf hZ
    refine va_gets C.1 C.2.1 hZ Wd.2 C.2.2.2.2.1 (C.2.2.2.2.2.2.2.1.2.1 _ (zcI_1_5 0 rfl rfl) args) (fun _ h => h) zd_J0_checkIndex_df160_0.1.2.2 ?_
    refine zJ_S (rest := []) (As := [.int i, .int n, f]) C Wd (zcI_1_5 2 rfl rfl) zm_J3_checkIndex_8e157 ⟨by decide, by decide⟩ rfl hl.1 (Nat.zero_le _) ⟨Nat.zero_le _, Nat.zero_le _⟩ zd_J0_checkIndex_df160_0.2.1 (zj_J3_checkIndex_8e157 hf h0 h1) fun H1 locs1 W1 => ?_
    refine lv_pop C.1 C.2.1 zd_J0_checkIndex_df160_0.2.2.1 rfl ?_
    exact hk _ _ _ 9 ⟨zd_J0_checkIndex_df160_0.2.2.2, rfl⟩ W1
  rcases hstr.2.2.2 with hZ | ⟨q, hZ⟩
  · exact key _ (Or.inl rfl) hZ
  · exact key _ (Or.inr ⟨q, rfl⟩) hZ
def zWch (x : Int32) : Int32 := zBYT.getD x.toNatClampNeg 0 &&& 255
theorem zin_lt {i : Int32} (hi : zin i 103 = true) : ¬ i < 0 ∧ i < 103 := by
  unfold zin at hi
  rw [Bool.and_eq_true, decide_eq_true_eq, decide_eq_true_eq] at hi
  refine ⟨Int32.not_lt.mpr hi.1, ?_⟩
  obtain ⟨k, hk, hk2⟩ : ∃ k, k < 103 ∧ i = nI k := by
    rcases nI_cases i 103 (by omega) with h | h | h
    · exact h
    · exact absurd hi.1 (Int32.not_le.mpr h)
    · obtain ⟨j, hj, rfl⟩ := nI_of (Int32.not_lt.mpr hi.1)
      have e : (nI j).toNatClampNeg = j := ztn_nI hj
      exact ⟨j, by rw [← e]; exact hi.2, rfl⟩
  rw [hk2, nI_lit 103]
  exact nI_lt hk (by omega)
theorem zj_J1_charAt_3b067 {i : Int32} (hi : zin i 103 = true) : zJ G mt_J1_charAt_3b067 [.ref (zGv G), .int i] S (some (.int (zWch i))) := by
  obtain ⟨h0, h1⟩ := zin_lt hi
  refine zJ_of rfl rfl (Nat.le_of_ble_eq_true rfl) fun p l e R s m args below meth c Q ls C Wd hl hk => ?_
  have hstr := C.2.2.2.2.2.2.2.1.2.2.2.2.1
  obtain ⟨-, -, -, hT⟩ := hstr.2.1.1 0 (by decide)
  refine lv_iload_n C.1 C.2.1 zd_J1_charAt_3b067_0.1.1.1 rfl (lv_at hl 1 rfl) ?_
  refine lv_aload_n C.1 C.2.1 zd_J1_charAt_3b067_0.1.1.2 rfl (lv_at hl 0 rfl) ?_
  refine va_tlen C.1 C.2.1 hT Wd.2 (v := 103) rfl zd_J1_charAt_3b067_0.1.2.1 ?_
  refine zJ_S (rest := []) (As := [.int i, .int 103]) C Wd (zcI_1_4 13 rfl rfl) zm_J0_checkIndex_df160 ⟨by decide, by decide⟩ rfl hl.1 (Nat.zero_le _) ⟨Nat.zero_le _, Nat.zero_le _⟩ zd_J1_charAt_3b067_0.1.2.2.1 (zj_J0_checkIndex_df160 h0 h1) fun H1 locs1 W1 => ?_
  refine lv_aload_n C.1 C.2.1 zd_J1_charAt_3b067_0.1.2.2.2 rfl (lv_at hl 0 rfl) ?_
  refine lv_iload_n C.1 C.2.1 zd_J1_charAt_3b067_0.2.1.1 rfl (lv_at hl 1 rfl) ?_
  refine va_tb C.1 C.2.1 hT W1.2 (zin_vp hi) rfl zd_J1_charAt_3b067_0.2.1.2.1 ?_
  refine lv_sipush C.1 C.2.1 zd_J1_charAt_3b067_0.2.1.2.2 (v := 255) rfl ?_
  refine lv_iand C.1 C.2.1 zd_J1_charAt_3b067_0.2.2.1 ?_
  refine lv_i2c C.1 C.2.1 zd_J1_charAt_3b067_0.2.2.2.1 (sc_c2 _) ?_
  exact hk _ _ _ 14 ⟨zd_J1_charAt_3b067_0.2.2.2.2, .char, rfl, sc_nar _⟩ W1
theorem zj_J0_isLatin1_aae02 : zJ G mt_J0_isLatin1_aae02 [.ref (zGs G)] S (some (.int 1)) := by
  refine zJ_of rfl rfl (Nat.le_of_ble_eq_true rfl) fun p l e R s m args below meth c Q ls C Wd hl hk => ?_
  have hstr := C.2.2.2.2.2.2.2.1.2.2.2.2.1
  obtain ⟨-, hc, -, -⟩ := hstr.2.1.1 0 (by decide)
  refine va_gets C.1 C.2.1 hstr.2.2.1 Wd.2 C.2.2.2.2.1 (C.2.2.2.2.2.2.2.1.2.1 _ (zcI_1_4 0 rfl rfl) args) (fun _ h => h) zd_J0_isLatin1_aae02_0.1.1.1 ?_
  refine lv_if_eq C.1 C.2.1 zd_J0_isLatin1_aae02_0.1.1.2 (show ((3 : Nat) : Int) + 14 = ((17 : Nat) : Int) from rfl) (fun z => absurd z (by decide)) (fun _ => ?_)
  refine lv_aload_n C.1 C.2.1 zd_J0_isLatin1_aae02_0.1.2.1 rfl (lv_at hl 0 rfl) ?_
  refine vk_getf C.1 C.2.1 hc Wd.2 C.2.2.2.2.1 (C.2.2.2.2.2.2.2.1.2.1 _ (zcI_7_8 14 rfl rfl) args) (fun _ h => h) zd_J0_isLatin1_aae02_0.1.2.2 ?_
  refine lv_if_ne C.1 C.2.1 zd_J0_isLatin1_aae02_0.2.1.1 (show ((10 : Nat) : Int) + 7 = ((17 : Nat) : Int) from rfl) (fun z => absurd rfl z) (fun _ => ?_)
  refine lv_iconst C.1 C.2.1 zd_J0_isLatin1_aae02_0.2.1.2 (v := 1) rfl ?_
  refine lv_goto C.1 C.2.1 zd_J0_isLatin1_aae02_0.2.2.1 (show ((14 : Nat) : Int) + 4 = ((18 : Nat) : Int) from rfl) ?_
  exact hk _ _ _ 18 ⟨zd_J0_isLatin1_aae02_0.2.2.2.2, .boolean, rfl, rfl⟩ Wd
theorem zj_J0_charAt_5068e {i : Int32} (hi : zin i 103 = true) : zJ G mt_J0_charAt_5068e [.ref (zGs G), .int i] S (some (.int (zWch i))) := by
  refine zJ_of rfl rfl (Nat.le_of_ble_eq_true rfl) fun p l e R s m args below meth c Q ls C Wd hl hk => ?_
  have hstr := C.2.2.2.2.2.2.2.1.2.2.2.2.1
  obtain ⟨-, -, hv, -⟩ := hstr.2.1.1 0 (by decide)
  refine lv_aload_n C.1 C.2.1 zd_J0_charAt_5068e_0.1.1.1 rfl (lv_at hl 0 rfl) ?_
  refine zJ_V (rest := []) (As := []) C Wd (zcI_1_4 6 rfl rfl) zm_J0_isLatin1_aae02 rfl ⟨by decide, by decide⟩ rfl hl.1 (Nat.zero_le _) ⟨Nat.zero_le _, Nat.zero_le _⟩ zd_J0_charAt_5068e_0.1.1.2.1 zj_J0_isLatin1_aae02 fun H1 locs1 W1 => ?_
  refine lv_if_eq C.1 C.2.1 zd_J0_charAt_5068e_0.1.1.2.2 (show ((4 : Nat) : Int) + 12 = ((16 : Nat) : Int) from rfl) (fun z => absurd z (by decide)) (fun _ => ?_)
  refine lv_aload_n C.1 C.2.1 zd_J0_charAt_5068e_0.1.2.1 rfl (lv_at hl 0 rfl) ?_
  refine vk_getf C.1 C.2.1 hv W1.2 C.2.2.2.2.1 (C.2.2.2.2.2.2.2.1.2.1 _ (zcI_7_8 13 rfl rfl) args) (fun _ h => h) zd_J0_charAt_5068e_0.1.2.2.1 ?_
  refine lv_iload_n C.1 C.2.1 zd_J0_charAt_5068e_0.1.2.2.2 rfl (lv_at hl 1 rfl) ?_
  refine zJ_S (rest := []) (As := [.ref (zGv G), .int i]) C W1 (zcI_1_4 10 rfl rfl) zm_J1_charAt_3b067 ⟨by decide, by decide⟩ rfl hl.1 (Nat.zero_le _) ⟨Nat.zero_le _, Nat.zero_le _⟩ zd_J0_charAt_5068e_0.2.1.1 (zj_J1_charAt_3b067 hi) fun H2 locs2 W2 => ?_
  exact hk _ _ _ 15 ⟨zd_J0_charAt_5068e_0.2.1.2.1, .char, rfl, sc_nar _⟩ W2
theorem zj_J0_coder_7d493 : zJ G mt_J0_coder_7d493 [.ref (zGs G)] S (some (.int 0)) := by
  refine zJ_of rfl rfl (Nat.le_of_ble_eq_true rfl) fun p l e R s m args below meth c Q ls C Wd hl hk => ?_
  have hstr := C.2.2.2.2.2.2.2.1.2.2.2.2.1
  obtain ⟨-, hc, -, -⟩ := hstr.2.1.1 0 (by decide)
  refine va_gets C.1 C.2.1 hstr.2.2.1 Wd.2 C.2.2.2.2.1 (C.2.2.2.2.2.2.2.1.2.1 _ (zcI_1_4 0 rfl rfl) args) (fun _ h => h) zd_J0_coder_7d493_0.1.1 ?_
  refine lv_if_eq C.1 C.2.1 zd_J0_coder_7d493_0.1.2.1 (show ((3 : Nat) : Int) + 10 = ((13 : Nat) : Int) from rfl) (fun z => absurd z (by decide)) (fun _ => ?_)
  refine lv_aload_n C.1 C.2.1 zd_J0_coder_7d493_0.1.2.2 rfl (lv_at hl 0 rfl) ?_
  refine vk_getf C.1 C.2.1 hc Wd.2 C.2.2.2.2.1 (C.2.2.2.2.2.2.2.1.2.1 _ (zcI_7_8 14 rfl rfl) args) (fun _ h => h) zd_J0_coder_7d493_0.2.1.1 ?_
  refine lv_goto C.1 C.2.1 zd_J0_coder_7d493_0.2.1.2 (show ((10 : Nat) : Int) + 4 = ((14 : Nat) : Int) from rfl) ?_
  exact hk _ _ _ 14 ⟨zd_J0_coder_7d493_0.2.2.2, .byte, rfl, rfl⟩ Wd
theorem zj_J0_length_8abf5 : zJ G mt_J0_length_8abf5 [.ref (zGs G)] S (some (.int 103)) := by
  refine zJ_of rfl rfl (Nat.le_of_ble_eq_true rfl) fun p l e R s m args below meth c Q ls C Wd hl hk => ?_
  have hstr := C.2.2.2.2.2.2.2.1.2.2.2.2.1
  obtain ⟨-, -, hv, hT⟩ := hstr.2.1.1 0 (by decide)
  refine lv_aload_n C.1 C.2.1 zd_J0_length_8abf5_0.1.1 rfl (lv_at hl 0 rfl) ?_
  refine vk_getf C.1 C.2.1 hv Wd.2 C.2.2.2.2.1 (C.2.2.2.2.2.2.2.1.2.1 _ (zcI_7_8 13 rfl rfl) args) (fun _ h => h) zd_J0_length_8abf5_0.1.2.1 ?_
  refine va_tlen C.1 C.2.1 hT Wd.2 (v := 103) rfl zd_J0_length_8abf5_0.1.2.2 ?_
  refine lv_aload_n C.1 C.2.1 zd_J0_length_8abf5_0.2.1.1 rfl (lv_at hl 0 rfl) ?_
  refine zJ_V (rest := [.int 103]) (As := []) C Wd (zcI_1_3 12 rfl rfl) zm_J0_coder_7d493 rfl ⟨by decide, by decide⟩ rfl hl.1 (Nat.le_of_ble_eq_true rfl) ⟨Nat.zero_le _, Nat.zero_le _⟩ zd_J0_length_8abf5_0.2.1.2 zj_J0_coder_7d493 fun H1 locs1 W1 => ?_
  refine lv_ishr C.1 C.2.1 zd_J0_length_8abf5_0.2.2.1 ?_
  have e : (103 : Int32) >>> ((0 : Int32) &&& 31) = 103 := by decide
  rw [e]
  exact hk _ _ _ 10 ⟨zd_J0_length_8abf5_0.2.2.2, .int, rfl, rfl⟩ W1
end JM
section RW9
variable {G : zG} {t : zMT} {pc idx : Nat} {ls : List (Nat × Value)} {st : List Value} {S S' : zS} {r : Option Value}
theorem rn_wlen (ho : zo t = RX9) (hl : zIn (.methodLink (zo t) idx yJ0_length_8abf5)) (hroom : 2 ≤ zfr t ∧ 40 ≤ zlo t) (hcat : (st.map fun v => v.category).sum ≤ 8) (hd : decode (zc t) pc = .ok (.ldc 25, 2)) (hd2 : decode (zc t) (pc + 2) = .ok (.invokevirtual idx, 3)) (k : Rn G t (pc + 5) ls (.int 103 :: st) S r S') : Rn G t pc ls st S r S' :=
  ⟨k.1, fun p l e R s m args below meth c H locs cells slots Q lsM C Wd hlv hc hk => by
    have hstr := C.2.2.2.2.2.2.2.1.2.2.2.2.1
    have hown : s.vm.findClass RX9 = some m.cls := by rw [← ho]; exact C.2.2.2.2.1
    obtain ⟨k1, k2⟩ := k.1
    obtain ⟨c1, c2⟩ := hc
    refine va_ldcS C.1 C.2.1 hown hstr.1 hd ?_
    refine zJ_V (pc := pc + 2) (rest := st.map (ztv G)) (As := []) C Wd hl zm_J0_length_8abf5 rfl ⟨hroom.1, hroom.2⟩ rfl hlv.1 (zcat hcat) ⟨by omega, by omega⟩ hd2 zj_J0_length_8abf5 fun H1 locs1 W1 => ?_
    exact k.2 p l e R s m args below meth c H1 locs1 cells slots Q lsM C W1 hlv ⟨c1, c2⟩ hk⟩
theorem rn_wch {q : Fin 4} {i : Int32} (ho : zo t = RX9) (hl : zIn (.methodLink (zo t) idx yJ0_charAt_5068e)) (hroom : 4 ≤ zfr t ∧ 90 ≤ zlo t) (hcat : (st.map fun v => v.category).sum ≤ 8) (j : Nat) (hj : ls[j]? = some ((q : Nat), .int i)) (hi : zin i 103 = true) (hd : decode (zc t) pc = .ok (.ldc 25, 2)) (hd1 : decode (zc t) (pc + 2) = .ok (.iload_n q, 1)) (hd2 : decode (zc t) (pc + 3) = .ok (.invokevirtual idx, 3)) (k : Rn G t (pc + 6) ls (.int (zWch i) :: st) S r S') : Rn G t pc ls st S r S' :=
  ⟨k.1, fun p l e R s m args below meth c H locs cells slots Q lsM C Wd hlv hc hk => by
    have hstr := C.2.2.2.2.2.2.2.1.2.2.2.2.1
    have hown : s.vm.findClass RX9 = some m.cls := by rw [← ho]; exact C.2.2.2.2.1
    obtain ⟨k1, k2⟩ := k.1
    obtain ⟨c1, c2⟩ := hc
    refine va_ldcS C.1 C.2.1 hown hstr.1 hd ?_
    refine lv_iload_n C.1 C.2.1 hd1 rfl (zq_at hlv j hj) ?_
    refine zJ_V (pc := pc + 3) (rest := st.map (ztv G)) (As := [.int i]) C Wd hl zm_J0_charAt_5068e rfl ⟨hroom.1, Nat.le_trans (by decide) hroom.2⟩ rfl hlv.1 (zcat hcat) ⟨by omega, by omega⟩ hd2 (zj_J0_charAt_5068e hi) fun H1 locs1 W1 => ?_
    exact k.2 p l e R s m args below meth c H1 locs1 cells slots Q lsM C W1 hlv ⟨c1, c2⟩ hk⟩
end RW9
theorem zlj_27 : zIn (.methodLink RX9 27 yJ0_length_8abf5) := (zcI_1_3 8 rfl rfl)
theorem zlj_33 : zIn (.methodLink RX9 33 yJ0_charAt_5068e) := (zcI_1_4 2 rfl rfl)
theorem zkl {K K1 : zK} {kd x : Nat × Nat} {a : Nat} (hK : K1 = K ++ [x]) (h : K[a]? = some kd) : K1[a]? = some kd := by
  rw [hK, List.getElem?_append_left (List.getElem?_eq_some_iff.mp h).1]
  exact h
theorem zkn {K K1 : zK} {x : Nat × Nat} {a : Nat} (ha : a = K.length) (hK : K1 = K ++ [x]) : K1[a]? = some x := by
  rw [hK, ha, List.getElem?_append_right (Nat.le_refl _), Nat.sub_self]
  rfl
theorem zbne {a : Nat} (h : (!decide (a = 0)) = true) : a ≠ 0 := fun e => by
  rw [e] at h
  exact absurd h (by decide)

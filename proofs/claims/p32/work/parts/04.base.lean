/-! FOUNDATION: one store for class and reference; the machine's world out of it; the judgement Rn, a row an instruction -/
abbrev zM : Type := Nat → Nat → Int32
abbrev zL : Type := Nat → Nat → Int64
abbrev zR : Type := Nat → Nat → Nat
abbrev zK : Type := List (Nat × Nat)
abbrev zS : Type := zM × zL × zR × zK
/-- what is fixed for the whole run: the script's address, the base address, the classes' numbers, the arrays' classes, the script, its length, the text WORDS and its bytes -/
abbrev zG : Type := Nat × Nat × va_G × (Nat → ClassId) × (Nat → Int32) × Nat × Nat × Nat
abbrev zGb (G : zG) : Nat := G.1
abbrev zGB (G : zG) : Nat := G.2.1
abbrev zGD (G : zG) : va_G := G.2.2.1
abbrev zGc (G : zG) : Nat → ClassId := G.2.2.2.1
abbrev zGx (G : zG) : Nat → Int32 := G.2.2.2.2.1
abbrev zGn (G : zG) : Nat := G.2.2.2.2.2.1
abbrev zGs (G : zG) : Nat := G.2.2.2.2.2.2.1
abbrev zGv (G : zG) : Nat := G.2.2.2.2.2.2.2
def zcl : List vw_C := [(RX0, TX0, 4), (RX1, TX1, 2), (RX2, TX2, 5), (RX3, TX3, 5), (RX4, TX4, 2), (RX5, TX5, 10), (RX6, TX6, 8), (RX7, TX7, 11), (RX8, TX8, 2), (RX9, TX9, 6), (RX10, TX10, 11), (RX11, TX11, 11), (RX12, TX12, 61)]
def zad (G : zG) (a : Nat) : Nat := if a = 1 then zGb G else zGB G + (a - 2)
def zopt (G : zG) (r : Nat) : Option Nat := if r = 0 then none else some (zad G r)
def ztv (G : zG) (v : Value) : Value := match v with
  | .ref a => .ref (zad G a)
  | w => w
def zA (G : zG) : Nat → Prop := fun q => zGB G ≤ q
/-- a field's kind: 0 int, 1 boolean, 2 reference -/
def zft (ci k : Nat) : Nat := match parseFieldDescriptor (((zcl.getD ci ("", TX0, 0)).2.1 k).2.2.1) with
  | some .int => 0
  | some .boolean => 1
  | _ => 2
def zfv (G : zG) (S : zS) (a ci k : Nat) : Value := if zft ci k = 2 then va_rf (zopt G (S.2.2.1 a k)) else .int (S.1 a k)
def zflds (G : zG) (S : zS) (a ci n : Nat) : List Value := (List.range n).map (fun k => zfv G S a ci k)
def zent (G : zG) (S : zS) (a : Nat) (kd : Nat × Nat) : va_E :=
  if kd.1 < 20 then .inr (kd.1, zflds G S a kd.1 kd.2)
  else if kd.1 = 23 then .inl (zGc G 23, kd.2, .inr (.inl (S.2.1 a)))
  else if kd.1 = 24 then .inl (zGc G 24, kd.2, .inr (.inr (.inr (.inr (fun j => zopt G (S.2.2.1 a j))))))
  else .inl (zGc G kd.1, kd.2, .inl (S.1 a))
def zwl (G : zG) (S : zS) : va_W := (List.range (S.2.2.2.length - 2)).map (fun i => (zGB G + i, zent G S (i + 2) (S.2.2.2.getD (i + 2) (0, 0))))
def zty : Nat → FieldType := fun t => if t = 20 then .int else if t = 21 then .byte else if t = 22 then .boolean else if t = 23 then .long else .object RX6
def ztys (G : zG) : List (ClassId × FieldType) := [(zGc G 20, .int), (zGc G 21, .byte), (zGc G 22, .boolean), (zGc G 23, .long), (zGc G 24, .object RX6)]
theorem zwl_get {G : zG} {S : zS} {a : Nat} {kd : Nat × Nat} (h2 : 2 ≤ a) (hk : S.2.2.2[a]? = some kd) : (zwl G S)[a - 2]? = some (zad G a, zent G S a kd) := by
  have hl := (List.getElem?_eq_some_iff.mp hk).1
  have hr : (List.range (S.2.2.2.length - 2))[a - 2]? = some (a - 2) := by
    rw [List.getElem?_range (by omega)]
  unfold zwl
  rw [List.getElem?_map, hr]
  have e2 : a - 2 + 2 = a := by omega
  simp only [Option.map_some, e2, List.getD_eq_getElem?_getD, hk, Option.getD_some]
  have : zad G a = zGB G + (a - 2) := by unfold zad; rw [if_neg (by omega)]
  rw [this]
theorem zwl_len {G : zG} {S : zS} : (zwl G S).length = S.2.2.2.length - 2 := by simp [zwl]
theorem zwl_at {G : zG} {S : zS} {i : Nat} {q : Nat × va_E} (h : (zwl G S)[i]? = some q) : i < S.2.2.2.length - 2 ∧ q = (zGB G + i, zent G S (i + 2) (S.2.2.2.getD (i + 2) (0, 0))) := by
  have hl := (List.getElem?_eq_some_iff.mp h).1
  rw [zwl_len] at hl
  refine ⟨hl, ?_⟩
  unfold zwl at h
  rw [List.getElem?_map, List.getElem?_range hl] at h
  exact (Option.some.inj h).symm
theorem zwl_D {G : zG} {S : zS} : va_D (zA G) (zwl G S) := by
  refine ⟨fun i j p q hp hq e => ?_, fun k q hq => ?_⟩
  · obtain ⟨-, rfl⟩ := zwl_at hp
    obtain ⟨-, rfl⟩ := zwl_at hq
    simp only at e
    omega
  · obtain ⟨-, rfl⟩ := zwl_at hq
    simp [zA]
theorem zwl_set {G : zG} {S S' : zS} {a : Nat} {kd : Nat × Nat} (h2 : 2 ≤ a) (hk : S.2.2.2[a]? = some kd) (hK : S'.2.2.2 = S.2.2.2) (he : ∀ b, b ≠ a → ∀ k, zent G S' b k = zent G S b k) :
    (zwl G S).set (a - 2) (zad G a, zent G S' a kd) = zwl G S' := by
  have hl := (List.getElem?_eq_some_iff.mp hk).1
  apply List.ext_getElem?
  intro j
  by_cases hj : j = a - 2
  · subst hj
    rw [List.getElem?_set_self (by rw [zwl_len]; omega), zwl_get h2 (by rw [hK]; exact hk)]
  · rw [List.getElem?_set_ne (Ne.symm hj)]
    by_cases hjl : j < S.2.2.2.length - 2
    · unfold zwl
      rw [List.getElem?_map, List.getElem?_map, hK, List.getElem?_range hjl]
      simp only [Option.map_some]
      rw [he (j + 2) (by omega)]
    · rw [List.getElem?_eq_none (by rw [zwl_len]; omega), List.getElem?_eq_none (by rw [zwl_len, hK]; omega)]
theorem zwl_push {G : zG} {S S' : zS} {kd : Nat × Nat} (h2 : 2 ≤ S.2.2.2.length) (hK : S'.2.2.2 = S.2.2.2 ++ [kd]) (he : ∀ b, b < S.2.2.2.length → ∀ k, zent G S' b k = zent G S b k) :
    zwl G S ++ [(zad G S.2.2.2.length, zent G S' S.2.2.2.length kd)] = zwl G S' := by
  have hz : zad G S.2.2.2.length = zGB G + (S.2.2.2.length - 2) := by unfold zad; rw [if_neg (by omega)]
  unfold zwl
  rw [hK, List.length_append, List.length_singleton, show S.2.2.2.length + 1 - 2 = (S.2.2.2.length - 2) + 1 by omega, List.range_succ, List.map_append, List.map_singleton]
  congr 1
  · apply List.map_congr_left
    intro i hi
    have hi := List.mem_range.mp hi
    rw [he (i + 2) (by omega)]
    simp only [List.getD_eq_getElem?_getD]
    rw [List.getElem?_append_left (by omega)]
  · rw [show S.2.2.2.length - 2 + 2 = S.2.2.2.length by omega, hz]
    simp [List.getD_eq_getElem?_getD]
/-- what the tables say: the words that stay true -/
def zwOK (w : Cond) : Bool := goodWord w || (match w with
  | .fieldLinkNest .. => true
  | .methodLinkNest .. => true
  | .arrayOver (.object _) => true
  | _ => false)
def zIn (w : Cond) : Prop := w ∈ lw_tbl ∧ zwOK w = true
def zTB (U : State) : Prop := ∀ w, zIn w → ∀ a : Array Value, w.before a U = true
theorem zwarm {w : Cond} {s U : State} (hw : zwOK w = true) (hW : s.WarmedH U.vm) (h : ∀ a : Array Value, w.before a s = true) : ∀ a : Array Value, w.before a U = true := by
  intro a
  unfold zwOK at hw
  rcases Bool.or_eq_true_iff.mp hw with hg | hn
  · exact word_at hW (good_of_word hg) (h #[])
  · cases w <;> first
      | exact (Bool.false_ne_true hn).elim
      | exact va_Nw.use rfl (va_Nw.warmF hW (va_Nw.of rfl (h #[])))
      | exact va_Nw.use rfl (va_Nw.warmM hW (va_Nw.of rfl (h #[])))
      | (rename_i ty; cases ty <;> first | exact (Bool.false_ne_true hn).elim | exact va_AO.use (A := a) (va_AO.moved hW.alike (va_AO.of (h #[]))))
theorem zTB.warm {s U : State} (hW : s.WarmedH U.vm) (h : zTB s) : zTB U := fun w hw => zwarm hw.2 hW (h w hw)
theorem zwsame {w : Cond} {s U : State} (hw : zwOK w = true) (hv : s.vm = U.vm) (h : ∀ a : Array Value, w.before a s = true) : ∀ a : Array Value, w.before a U = true := by
  have hW : s.WarmedH U.vm := by rw [← hv]; exact State.WarmedH.refl s
  exact zwarm hw hW h
abbrev zMT : Type := String × MethodName × ByteArray × Nat × Option FieldType × Nat × Nat
abbrev zo (t : zMT) : String := t.1
abbrev zy (t : zMT) : MethodName := t.2.1
abbrev zc (t : zMT) : ByteArray := t.2.2.1
abbrev zn (t : zMT) : Nat := t.2.2.2.1
abbrev zr (t : zMT) : Option FieldType := t.2.2.2.2.1
abbrev zfr (t : zMT) : Nat := t.2.2.2.2.2.1
abbrev zlo (t : zMT) : Nat := t.2.2.2.2.2.2
def zWORDS : String := "house street turns pays earns shared seed if then else alike most round left right own gap day lot pot "
def zBYT : List Int32 := [104, 111, 117, 115, 101, 32, 115, 116, 114, 101, 101, 116, 32, 116, 117, 114, 110, 115, 32, 112, 97, 121, 115, 32, 101, 97, 114, 110, 115, 32, 115, 104, 97, 114, 101, 100, 32, 115, 101, 101, 100, 32, 105, 102, 32, 116, 104, 101, 110, 32, 101, 108, 115, 101, 32, 97, 108, 105, 107, 101, 32, 109, 111, 115, 116, 32, 114, 111, 117, 110, 100, 32, 108, 101, 102, 116, 32, 114, 105, 103, 104, 116, 32, 111, 119, 110, 32, 103, 97, 112, 32, 100, 97, 121, 32, 108, 111, 116, 32, 112, 111, 116, 32]
def zStr (G : zG) (U : State) (H : Heap) : Prop := vk_R RX9 25 zWORDS (zGs G) U ∧ vk_S 1 [103] [zBYT] (fun _ => zGs G) (fun _ => zGv G) (zA G) U H ∧ va_Z "java/lang/String" "COMPACT_STRINGS" "Z" (.int 1) (zA G) U H ∧ va_Zq "jdk/internal/util/Preconditions" "SIOOBE_FORMATTER" "Ljava/util/function/BiFunction;" (zA G) U H
/-- the heap holds the store -/
def zK0 (K : zK) : Prop := K[0]? = some (90, 0) ∧ K[1]? = some (91, 0)
def zE (G : zG) (S : zS) (H : Heap) : Prop := (H.size = zGB G + (S.2.2.2.length - 2) ∧ zK0 S.2.2.2) ∧ va_P (zGD G) zcl (zwl G S) H
/-- a machine's start of a method -/
def zB (G : zG) (S : zS) (U : State) : Prop := zE G S U.heap ∧ va_K (zGD G) zcl (ztys G) U ∧ zTB U ∧ va_X (zGb G) (zGn G) (zGx G) U U.heap ∧ zGb G < zGB G ∧ zStr G U U.heap
def zsl (K : zK) : Nat := (K.map (fun q => q.2)).sum
def zCtx (G : zG) (t : zMT) (p : Program) (R : Room) (s : State) (m : MethodId) (meth : Method) (c : Code) : Prop :=
  p.tables.exec = Jvm.exec ∧ c.code = zc t ∧ c.maxLocals = zn t ∧ meth.sig.returnType = zr t ∧ s.vm.findClass (zo t) = some m.cls ∧ meth.name = (zy t).name ∧ meth.locks = false ∧
  (va_K (zGD G) zcl (ztys G) s ∧ zTB s ∧ va_X (zGb G) (zGn G) (zGx G) s s.heap ∧ zGb G < zGB G ∧ zStr G s s.heap ∧ zGB G ≤ s.heap.size) ∧ zfr t ≤ R.frames ∧ zlo t ≤ R.locals
def zW (G : zG) (S : zS) (s : State) (H : Heap) (locs : List Loc) : Prop := zE G S H ∧ va_S (zA G) s.heap H locs
def zRetOK (t : zMT) (pc : Nat) (r : Option Value) : Prop := match r with
  | none => decode (zc t) pc = .ok (.return_, 1) ∧ zr t = none
  | some (.int x) => decode (zc t) pc = .ok (.ireturn, 1) ∧ ∃ ty, zr t = some ty ∧ narrow ty (.int x) = .int x
  | some (.long _) => decode (zc t) pc = .ok (.lreturn, 1) ∧ zr t = some .long
  | _ => False
def zq (G : zG) (ls : List (Nat × Value)) : List (Nat × Value) := ls.map (fun q => (q.1, ztv G q.2))
def zmono (S S' : zS) : Prop := S.2.2.2.length ≤ S'.2.2.2.length ∧ zsl S.2.2.2 ≤ zsl S'.2.2.2
def Rn (G : zG) (t : zMT) (pc : Nat) (ls : List (Nat × Value)) (st : List Value) (S : zS) (r : Option Value) (S' : zS) : Prop :=
  zmono S S' ∧ ∀ (p : Program) (l : Launch) (e : Env) (R : Room) (s : State) (m : MethodId) (args : Array Value) (below : List Frame) (meth : Method) (c : Code) (H : Heap) (locs : List Loc) (cells slots : Nat) (Q : State → Prop) (lsM : Array Slot),
    zCtx G t p R s m meth c → zW G S s H locs → lv_has lsM (zn t) (zq G ls) →
    (cells + S'.2.2.2.length ≤ R.cells + S.2.2.2.length ∧ slots + zsl S'.2.2.2 ≤ R.slots + zsl S.2.2.2) →
    (∀ (H1 : Heap) (locs1 : List Loc) (ls1 : Array Slot) (pc1 cells1 slots1 : Nat), zRetOK t pc1 r → zW G S' s H1 locs1 → cells1 + S.2.2.2.length = cells + S'.2.2.2.length → slots1 + zsl S.2.2.2 = slots + zsl S'.2.2.2 → W p l e R s m args below meth c H1 locs1 cells1 slots1 Q (F0 m pc1 ls1 (r.toList.map (ztv G)))) →
    W p l e R s m args below meth c H locs cells slots Q (F0 m pc lsM (st.map (ztv G)))
def zQ (G : zG) (S' : zS) (r : Option Value) : Array Value → State → Outcome → State → Prop := fun _ st oc u => (oc = .returned (r.map (ztv G)) ∧ zE G S' u.heap) ∧ va_F (zA G) st u
/-- a method's contract: from these arguments and this store it returns r, and leaves that store -/
def Rm (G : zG) (t : zMT) (as : List Value) (S : zS) (r : Option Value) (S' : zS) : Prop :=
  zmono S S' ∧ ∀ l : Launch, Met l (zy t) [Cond.code (zy t) (zc t) (zn t) (zr t)] ({ frames := zfr t, cells := S'.2.2.2.length - S.2.2.2.length, slots := zsl S'.2.2.2 - zsl S.2.2.2, locals := zlo t }) (va_Pc (as.map (ztv G)) (zB G S)) (zQ G S' r) (S'.2.2.2.length - S.2.2.2.length) (zsl S'.2.2.2 - zsl S.2.2.2) (zA G)
theorem zStr.warm {G : zG} {s U : State} {H : Heap} (hW : s.WarmedH U.vm) (h : zStr G s H) : zStr G U H :=
  ⟨h.1.warm hW, h.2.1.moved hW.alike, h.2.2.1.moved hW.alike, h.2.2.2.moved hW.alike⟩
theorem zStr.kept {G : zG} {s : State} {H H1 : Heap} (h : zStr G s H) (hq : ∀ a : Nat, a < H.size → ¬ zA G a → H1[a]? = H[a]?) : zStr G s H1 :=
  ⟨h.1, h.2.1.kept hq, h.2.2.1.kept hq, h.2.2.2.kept hq⟩
theorem zB_call {G : zG} {t : zMT} {p : Program} {R : Room} {s : State} {m : MethodId} {meth : Method} {c : Code} {S : zS} {H : Heap} {locs : List Loc} {U : State} (C : zCtx G t p R s m meth c) (Wd : zW G S s H locs) (hU : U.heap = H) (hW : s.WarmedH U.vm) : zB G S U := by
  obtain ⟨-, -, -, -, -, -, -, ⟨hK, hT, hX, hb, hs, hz⟩, -⟩ := C
  have hbA : ¬ zA G (zGb G) := Nat.not_le.mpr hb
  refine ⟨by rw [hU]; exact Wd.1, hK.moved hW.alike, hT.warm hW, ?_, hb, ?_⟩
  · rw [hU]
    exact (hX.kept (Wd.2.2.1 _ (Nat.lt_of_lt_of_le hb hz) hbA)).moved hW.alike
  · rw [hU]
    exact (hs.kept Wd.2.2.1).warm hW
theorem zwarm_same {s U : State} (h : s.vm = U.vm) : s.WarmedH U.vm := by rw [← h]; exact State.WarmedH.refl s
theorem zB_same {G : zG} {S : zS} {U V : State} (hh : V.heap = U.heap) (hv : U.vm = V.vm) (h : zB G S U) : zB G S V := by
  have hW := zwarm_same hv
  obtain ⟨h1, hK, hT, hX, hb, hs⟩ := h
  refine ⟨by rw [hh]; exact h1, hK.moved hW.alike, hT.warm hW, by rw [hh]; exact hX.moved hW.alike, hb, by rw [hh]; exact hs.warm hW⟩
theorem zblind {G : zG} {S : zS} {as : List Value} : FrameBlind (va_Pc as (zB G S)) := fun a U g mk h => ⟨h.1, zB_same (U := U) (V := U.calling g mk a) rfl rfl h.2⟩
section ZC
variable {p : Program} {l : Launch} {e : Env} {R : Room} {s : State} {m : MethodId} {args : Array Value} {below : List Frame} {meth : Method} {c : Code} {H : Heap} {locs : List Loc} {cells slots : Nat} {Q : State → Prop}
/-- behind a call, at the machine -/
theorem z_call {G : zG} {S0 S1 : zS} {r : Option Value} {a : Array Value} {pc : Nat} {ls : Array Slot} {rest st0 : List Value} {mc ms : Nat}
    (hr : va_Run p l e R s m args below meth c H locs cells slots mc ms (F0 m pc ls st0) rest (zQ G S1 r a) (zA G)) (Wd : zW G S0 s H locs)
    (kk : ∀ (H1 : Heap) (locs1 : List Loc), zW G S1 s H1 locs1 → W p l e R s m args below meth c H1 locs1 (cells + mc) (slots + ms) Q (F0 m (pc + 3) ls (r.toList.map (ztv G) ++ rest))) : W p l e R s m args below meth c H locs cells slots Q (F0 m pc ls st0) := by
  intro T hT X
  obtain ⟨v, st₀, t, T', L, h0, X', hL, e1, e2, ⟨⟨hv, hb⟩, hz, hk⟩, st⟩ := hr T hT X
  obtain rfl : v = r.map (ztv G) := by simpa using hv
  rw [h0] at hz hk
  have hS := Wd.2
  obtain ⟨t2, a1, b1⟩ := kk T'.heap (locs ++ L) ⟨by rw [e1]; exact hb, Nat.le_trans hS.1 (by rw [e1]; exact hz), fun q h1 h2 => by rw [e1, hk q (Nat.lt_of_lt_of_le h1 hS.1) h2]; exact hS.2.1 q h1 h2, fun q hq => by
      rcases List.mem_append.mp hq with h | h
      · exact hS.2.2 q h
      · exact hL q h⟩ T' rfl X'
  refine ⟨t2, st t2 ?_, b1⟩
  have e3 : (r.map (ztv G)).toList = r.toList.map (ztv G) := by cases r <;> rfl
  rw [e3]
  exact a1
end ZC
theorem zmono.rf {S : zS} : zmono S S := ⟨Nat.le_refl _, Nat.le_refl _⟩
theorem zmono.tr {S S1 S' : zS} (h : zmono S S1) (h2 : zmono S1 S') : zmono S S' := ⟨Nat.le_trans h.1 h2.1, Nat.le_trans h.2 h2.2⟩
/-- a method out of its body -/
theorem rm_rn {G : zG} {t : zMT} {as : List Value} {S S' : zS} {r : Option Value} (hy : plainName (zy t).cls = true) (ho : zo t = (zy t).cls) (hn : (lg_sl (as.map (ztv G))).length ≤ zn t)
    (h : Rn G t 0 (lv_args 0 as) [] S r S') : Rm G t as S r S' := by
  refine ⟨h.1, fun l => ?_⟩
  refine Met.ofW (cc := zc t) (maxL := zn t) (ret := zr t) hy rfl ?_
  intro p e s m args below meth c s₁ B hml hv
  obtain ⟨rfl, hE, hK, hT, hX, hb, hs⟩ := hv
  have hown : s.vm.findClass (zo t) = some m.cls := by rw [ho]; exact findClass_of_methodNamed B.named
  have hname : meth.name = (zy t).name := (name_of_methodNamed B.named B.method).1
  have hsz : zGB G ≤ s.heap.size := by rw [hE.1.1]; omega
  have C : zCtx G t p ({ frames := zfr t, cells := S'.2.2.2.length - S.2.2.2.length, slots := zsl S'.2.2.2 - zsl S.2.2.2, locals := zlo t } : Room) s m meth c := ⟨B.exec, B.bytes, hml, B.returns, hown, hname, B.notSynchronized, ⟨hK, hT, hX, hb, hs, hsz⟩, Nat.le_refl _, Nat.le_refl _⟩
  have hl := lv_entry (as.map (ztv G)) (n := zn t) hn
  rw [lg_entry_eq]
  have hl2 : lv_has ((lg_sl (as.map (ztv G)) ++ List.replicate (zn t - (lg_sl (as.map (ztv G))).length) Slot.unset).toArray) (zn t) (zq G (lv_args 0 as)) := by
    have e1 : ∀ (vs : List Value) (i : Nat), lv_args i (vs.map (ztv G)) = zq G (lv_args i vs) := by
      intro vs
      induction vs with
      | nil => intro i; rfl
      | cons v vs ih =>
        intro i
        have hc : (ztv G v).category = v.category := by cases v <;> rfl
        show (i, ztv G v) :: lv_args (if (ztv G v).category = 2 then i + 2 else i + 1) (vs.map (ztv G)) = _
        rw [hc, ih]
        rfl
    rw [← e1]
    exact hl
  obtain ⟨hm1, hm2⟩ := h.1
  refine h.2 p l e _ s m _ below meth c s.heap [] 0 0 _ _ C ⟨hE, va_S.rf⟩ hl2 ⟨by show 0 + _ ≤ (_ - _) + _; omega, by show 0 + _ ≤ (_ - _) + _; omega⟩ ?_
  intro H1 locs1 ls1 pc1 cells1 slots1 hret Wd hc1 hs1
  have ec : cells1 = S'.2.2.2.length - S.2.2.2.length := by omega
  have es : slots1 = zsl S'.2.2.2 - zsl S.2.2.2 := by omega
  subst ec; subst es
  have fin : ∀ u : State, u.heap = H1 → zQ G S' r (as.map (ztv G)).toArray s (.returned (r.map (ztv G))) u := fun u hu => ⟨⟨rfl, by rw [hu]; exact Wd.1⟩, Wd.2.F hu⟩
  match r, hret, fin with
  | none, hret, fin => exact W.vret B.exec B.bytes (B.returns.trans hret.2) (fun u hu _ => fin u hu) Wd.2.2.2 hret.1
  | some (.int x), hret, fin =>
    obtain ⟨hd, ty, e1, e2⟩ := hret
    exact W.zret B.exec B.bytes (B.returns.trans e1) e2 (fun u hu _ => fin u hu) Wd.2.2.2 hd
  | some (.long x), hret, fin => exact W.lret B.exec B.bytes (B.returns.trans hret.2) (fun u hu _ => fin u hu) Wd.2.2.2 hret.1
section ROWS
variable {G : zG} {t : zMT} {pc : Nat} {ls : List (Nat × Value)} {st : List Value} {S S' : zS} {r : Option Value}
theorem rn_iconst {n : Int} {v : Int32} (hd : decode (zc t) pc = .ok (.iconst n, 1)) (hv : Int32.ofInt n = v) (k : Rn G t (pc + 1) ls (.int v :: st) S r S') : Rn G t pc ls st S r S' :=
  ⟨k.1, fun p l e R s m args below meth c H locs cells slots Q lsM C Wd hl hc hk => lv_iconst C.1 C.2.1 hd hv (k.2 p l e R s m args below meth c H locs cells slots Q lsM C Wd hl hc hk)⟩
theorem rn_bipush {n : Int} {v : Int32} (hd : decode (zc t) pc = .ok (.bipush n, 2)) (hv : (Int8.ofInt n).toInt32 = v) (k : Rn G t (pc + 2) ls (.int v :: st) S r S') : Rn G t pc ls st S r S' :=
  ⟨k.1, fun p l e R s m args below meth c H locs cells slots Q lsM C Wd hl hc hk => lv_bipush C.1 C.2.1 hd hv (k.2 p l e R s m args below meth c H locs cells slots Q lsM C Wd hl hc hk)⟩
theorem rn_sipush {n : Int} {v : Int32} (hd : decode (zc t) pc = .ok (.sipush n, 3)) (hv : (Int16.ofInt n).toInt32 = v) (k : Rn G t (pc + 3) ls (.int v :: st) S r S') : Rn G t pc ls st S r S' :=
  ⟨k.1, fun p l e R s m args below meth c H locs cells slots Q lsM C Wd hl hc hk => lv_sipush C.1 C.2.1 hd hv (k.2 p l e R s m args below meth c H locs cells slots Q lsM C Wd hl hc hk)⟩
theorem rn_lconst {n : Fin 2} {v : Int64} (hd : decode (zc t) pc = .ok (.lconst n, 1)) (hv : Int64.ofNat (n : Nat) = v) (k : Rn G t (pc + 1) ls (.long v :: st) S r S') : Rn G t pc ls st S r S' :=
  ⟨k.1, fun p l e R s m args below meth c H locs cells slots Q lsM C Wd hl hc hk => lv_lconst C.1 C.2.1 hd hv (k.2 p l e R s m args below meth c H locs cells slots Q lsM C Wd hl hc hk)⟩
theorem rn_ldc {i : Nat} {v : Int32} (hw : zIn (.constant (zo t) i v)) (hd : decode (zc t) pc = .ok (.ldc i, 2)) (k : Rn G t (pc + 2) ls (.int v :: st) S r S') : Rn G t pc ls st S r S' :=
  ⟨k.1, fun p l e R s m args below meth c H locs cells slots Q lsM C Wd hl hc hk => lv_ldc C.1 C.2.1 C.2.2.2.2.1 (C.2.2.2.2.2.2.2.1.2.1 _ hw args) hd (k.2 p l e R s m args below meth c H locs cells slots Q lsM C Wd hl hc hk)⟩
theorem rn_ldcw {i : Nat} {v : Int32} (hw : zIn (.constant (zo t) i v)) (hd : decode (zc t) pc = .ok (.ldc_w i, 3)) (k : Rn G t (pc + 3) ls (.int v :: st) S r S') : Rn G t pc ls st S r S' :=
  ⟨k.1, fun p l e R s m args below meth c H locs cells slots Q lsM C Wd hl hc hk => lv_ldcw C.1 C.2.1 C.2.2.2.2.1 (C.2.2.2.2.2.2.2.1.2.1 _ hw args) hd (k.2 p l e R s m args below meth c H locs cells slots Q lsM C Wd hl hc hk)⟩
theorem rn_ldc2 {i : Nat} {v : Int64} (hw : zIn (.constantLong (zo t) i v)) (hd : decode (zc t) pc = .ok (.ldc2_w i, 3)) (k : Rn G t (pc + 3) ls (.long v :: st) S r S') : Rn G t pc ls st S r S' :=
  ⟨k.1, fun p l e R s m args below meth c H locs cells slots Q lsM C Wd hl hc hk => lv_ldc2 C.1 C.2.1 C.2.2.2.2.1 (C.2.2.2.2.2.2.2.1.2.1 _ hw args) hd (k.2 p l e R s m args below meth c H locs cells slots Q lsM C Wd hl hc hk)⟩
theorem zq_at {G : zG} {ls : List (Nat × Value)} {lsM : Array Slot} {n : Nat} (hl : lv_has lsM n (zq G ls)) (j : Nat) {i : Nat} {v : Value} (h : ls[j]? = some (i, v)) : lsM[i]? = some (.val (ztv G v)) :=
  lv_at hl j (by unfold zq; rw [List.getElem?_map, h]; rfl)
theorem rn_iload_n {q : Fin 4} {x : Int32} (j : Nat) (hj : ls[j]? = some ((q : Nat), .int x)) (hd : decode (zc t) pc = .ok (.iload_n q, 1)) (k : Rn G t (pc + 1) ls (.int x :: st) S r S') : Rn G t pc ls st S r S' :=
  ⟨k.1, fun p l e R s m args below meth c H locs cells slots Q lsM C Wd hl hc hk => lv_iload_n C.1 C.2.1 hd rfl (zq_at hl j hj) (k.2 p l e R s m args below meth c H locs cells slots Q lsM C Wd hl hc hk)⟩
theorem rn_iload {i : Nat} {x : Int32} (j : Nat) (hj : ls[j]? = some (i, .int x)) (hd : decode (zc t) pc = .ok (.iload i, 2)) (k : Rn G t (pc + 2) ls (.int x :: st) S r S') : Rn G t pc ls st S r S' :=
  ⟨k.1, fun p l e R s m args below meth c H locs cells slots Q lsM C Wd hl hc hk => lv_iload C.1 C.2.1 hd (zq_at hl j hj) (k.2 p l e R s m args below meth c H locs cells slots Q lsM C Wd hl hc hk)⟩
theorem rn_lload_n {q : Fin 4} {x : Int64} (j : Nat) (hj : ls[j]? = some ((q : Nat), .long x)) (hd : decode (zc t) pc = .ok (.lload_n q, 1)) (k : Rn G t (pc + 1) ls (.long x :: st) S r S') : Rn G t pc ls st S r S' :=
  ⟨k.1, fun p l e R s m args below meth c H locs cells slots Q lsM C Wd hl hc hk => lv_lload_n C.1 C.2.1 hd rfl (zq_at hl j hj) (k.2 p l e R s m args below meth c H locs cells slots Q lsM C Wd hl hc hk)⟩
theorem rn_lload {i : Nat} {x : Int64} (j : Nat) (hj : ls[j]? = some (i, .long x)) (hd : decode (zc t) pc = .ok (.lload i, 2)) (k : Rn G t (pc + 2) ls (.long x :: st) S r S') : Rn G t pc ls st S r S' :=
  ⟨k.1, fun p l e R s m args below meth c H locs cells slots Q lsM C Wd hl hc hk => lv_lload C.1 C.2.1 hd (zq_at hl j hj) (k.2 p l e R s m args below meth c H locs cells slots Q lsM C Wd hl hc hk)⟩
theorem rn_aload_n {q : Fin 4} {a : Nat} (j : Nat) (hj : ls[j]? = some ((q : Nat), .ref a)) (hd : decode (zc t) pc = .ok (.aload_n q, 1)) (k : Rn G t (pc + 1) ls (.ref a :: st) S r S') : Rn G t pc ls st S r S' :=
  ⟨k.1, fun p l e R s m args below meth c H locs cells slots Q lsM C Wd hl hc hk => lv_aload_n C.1 C.2.1 hd rfl (zq_at hl j hj) (k.2 p l e R s m args below meth c H locs cells slots Q lsM C Wd hl hc hk)⟩
theorem rn_aload {i a : Nat} (j : Nat) (hj : ls[j]? = some (i, .ref a)) (hd : decode (zc t) pc = .ok (.aload i, 2)) (k : Rn G t (pc + 2) ls (.ref a :: st) S r S') : Rn G t pc ls st S r S' :=
  ⟨k.1, fun p l e R s m args below meth c H locs cells slots Q lsM C Wd hl hc hk => lv_aload C.1 C.2.1 hd (zq_at hl j hj) (k.2 p l e R s m args below meth c H locs cells slots Q lsM C Wd hl hc hk)⟩
/-- fewer locals -/
theorem rn_sub {ls' : List (Nat × Value)} (js : List Nat) (hj : js.filterMap (fun j => ls[j]?) = ls') (k : Rn G t pc ls' st S r S') : Rn G t pc ls st S r S' :=
  ⟨k.1, fun p l e R s m args below meth c H locs cells slots Q lsM C Wd hl hc hk => k.2 p l e R s m args below meth c H locs cells slots Q lsM C Wd ⟨hl.1, hl.2.1, fun q hq => by
    subst hj
    obtain ⟨q0, h0, rfl⟩ := List.mem_map.mp hq
    obtain ⟨j, -, h1⟩ := List.mem_filterMap.mp h0
    exact hl.2.2 _ (List.mem_map.mpr ⟨q0, List.mem_of_getElem? h1, rfl⟩)⟩ hc hk⟩
theorem ztv_cat {G : zG} (v : Value) : (ztv G v).category = v.category := by cases v <;> rfl
def zkeep1 (i : Nat) (ls : List (Nat × Value)) : List (Nat × Value) := ls.filter (fun q => !(q.1 == i) && !(q.1 + 1 == i && q.2.category == 2))
def zkeep2 (i : Nat) (ls : List (Nat × Value)) : List (Nat × Value) := ls.filter (fun q => !(q.1 == i) && (!(q.1 == i + 1) && !(q.1 + 1 == i && q.2.category == 2)))
theorem zq_keep1 {G : zG} (i : Nat) (ls : List (Nat × Value)) : (zq G ls).filter (fun q => !(q.1 == i) && !(q.1 + 1 == i && q.2.category == 2)) = zq G (zkeep1 i ls) := by
  unfold zq zkeep1
  rw [List.filter_map]
  congr 1
  apply List.filter_congr
  intro q _
  simp [ztv_cat]
theorem zq_keep2 {G : zG} (i : Nat) (ls : List (Nat × Value)) : (zq G ls).filter (fun q => !(q.1 == i) && (!(q.1 == i + 1) && !(q.1 + 1 == i && q.2.category == 2))) = zq G (zkeep2 i ls) := by
  unfold zq zkeep2
  rw [List.filter_map]
  congr 1
  apply List.filter_congr
  intro q _
  simp [ztv_cat]
theorem rn_istore_n {q : Fin 4} {x : Int32} {ls' : List (Nat × Value)} (hn : (q : Nat) < zn t) (hl' : ((q : Nat), Value.int x) :: zkeep1 q ls = ls') (hd : decode (zc t) pc = .ok (.istore_n q, 1)) (k : Rn G t (pc + 1) ls' st S r S') : Rn G t pc ls (.int x :: st) S r S' :=
  ⟨k.1, fun p l e R s m args below meth c H locs cells slots Q lsM C Wd hl hc hk => lv_istore_n C.1 C.2.1 hd rfl hl hn rfl fun ls1 h1 => k.2 p l e R s m args below meth c H locs cells slots Q ls1 C Wd (by rw [← hl']; show lv_has ls1 _ ((_, _) :: zq G (zkeep1 _ ls)); rw [← zq_keep1]; exact h1) hc hk⟩
theorem rn_istore {i : Nat} {x : Int32} {ls' : List (Nat × Value)} (hn : i < zn t) (hl' : (i, Value.int x) :: zkeep1 i ls = ls') (hd : decode (zc t) pc = .ok (.istore i, 2)) (k : Rn G t (pc + 2) ls' st S r S') : Rn G t pc ls (.int x :: st) S r S' :=
  ⟨k.1, fun p l e R s m args below meth c H locs cells slots Q lsM C Wd hl hc hk => lv_istore C.1 C.2.1 hd hl hn rfl fun ls1 h1 => k.2 p l e R s m args below meth c H locs cells slots Q ls1 C Wd (by rw [← hl']; show lv_has ls1 _ ((_, _) :: zq G (zkeep1 _ ls)); rw [← zq_keep1]; exact h1) hc hk⟩
theorem rn_lstore_n {q : Fin 4} {x : Int64} {ls' : List (Nat × Value)} (hn : (q : Nat) + 1 < zn t) (hl' : ((q : Nat), Value.long x) :: zkeep2 q ls = ls') (hd : decode (zc t) pc = .ok (.lstore_n q, 1)) (k : Rn G t (pc + 1) ls' st S r S') : Rn G t pc ls (.long x :: st) S r S' :=
  ⟨k.1, fun p l e R s m args below meth c H locs cells slots Q lsM C Wd hl hc hk => lv_lstore_n C.1 C.2.1 hd rfl hl hn rfl fun ls1 h1 => k.2 p l e R s m args below meth c H locs cells slots Q ls1 C Wd (by rw [← hl']; show lv_has ls1 _ ((_, _) :: zq G (zkeep2 _ ls)); rw [← zq_keep2]; exact h1) hc hk⟩
theorem rn_lstore {i : Nat} {x : Int64} {ls' : List (Nat × Value)} (hn : i + 1 < zn t) (hl' : (i, Value.long x) :: zkeep2 i ls = ls') (hd : decode (zc t) pc = .ok (.lstore i, 2)) (k : Rn G t (pc + 2) ls' st S r S') : Rn G t pc ls (.long x :: st) S r S' :=
  ⟨k.1, fun p l e R s m args below meth c H locs cells slots Q lsM C Wd hl hc hk => lv_lstore C.1 C.2.1 hd hl hn rfl fun ls1 h1 => k.2 p l e R s m args below meth c H locs cells slots Q ls1 C Wd (by rw [← hl']; show lv_has ls1 _ ((_, _) :: zq G (zkeep2 _ ls)); rw [← zq_keep2]; exact h1) hc hk⟩
theorem rn_astore_n {q : Fin 4} {a : Nat} {ls' : List (Nat × Value)} (hn : (q : Nat) < zn t) (hl' : ((q : Nat), Value.ref a) :: zkeep1 q ls = ls') (hd : decode (zc t) pc = .ok (.astore_n q, 1)) (k : Rn G t (pc + 1) ls' st S r S') : Rn G t pc ls (.ref a :: st) S r S' :=
  ⟨k.1, fun p l e R s m args below meth c H locs cells slots Q lsM C Wd hl hc hk => lv_astore_n (x := zad G a) C.1 C.2.1 hd rfl hl hn rfl fun ls1 h1 => k.2 p l e R s m args below meth c H locs cells slots Q ls1 C Wd (by rw [← hl']; show lv_has ls1 _ ((_, _) :: zq G (zkeep1 _ ls)); rw [← zq_keep1]; exact h1) hc hk⟩
theorem rn_iinc {i : Nat} {n : Int} {x v : Int32} {ls' : List (Nat × Value)} (j : Nat) (hj : ls[j]? = some (i, .int x)) (hv : x + Int32.ofInt n = v) (hn : i < zn t) (hl' : (i, Value.int v) :: zkeep1 i ls = ls') (hd : decode (zc t) pc = .ok (.iinc i n, 3)) (k : Rn G t (pc + 3) ls' st S r S') : Rn G t pc ls st S r S' :=
  ⟨k.1, fun p l e R s m args below meth c H locs cells slots Q lsM C Wd hl hc hk => lv_iinc (k := j) C.1 C.2.1 hd hl (by unfold zq; rw [List.getElem?_map, hj]; rfl) hv hn rfl fun ls1 h1 => k.2 p l e R s m args below meth c H locs cells slots Q ls1 C Wd (by rw [← hl']; show lv_has ls1 _ ((_, _) :: zq G (zkeep1 _ ls)); rw [← zq_keep1]; exact h1) hc hk⟩
theorem rn_iadd {x y : Int32} (hd : decode (zc t) pc = .ok (.iadd, 1)) (k : Rn G t (pc + 1) ls (.int (x + y) :: st) S r S') : Rn G t pc ls (.int y :: .int x :: st) S r S' :=
  ⟨k.1, fun p l e R s m args below meth c H locs cells slots Q lsM C Wd hl hc hk => lv_iadd C.1 C.2.1 hd (k.2 p l e R s m args below meth c H locs cells slots Q lsM C Wd hl hc hk)⟩
theorem rn_isub {x y : Int32} (hd : decode (zc t) pc = .ok (.isub, 1)) (k : Rn G t (pc + 1) ls (.int (x - y) :: st) S r S') : Rn G t pc ls (.int y :: .int x :: st) S r S' :=
  ⟨k.1, fun p l e R s m args below meth c H locs cells slots Q lsM C Wd hl hc hk => lv_isub C.1 C.2.1 hd (k.2 p l e R s m args below meth c H locs cells slots Q lsM C Wd hl hc hk)⟩
theorem rn_imul {x y : Int32} (hd : decode (zc t) pc = .ok (.imul, 1)) (k : Rn G t (pc + 1) ls (.int (x * y) :: st) S r S') : Rn G t pc ls (.int y :: .int x :: st) S r S' :=
  ⟨k.1, fun p l e R s m args below meth c H locs cells slots Q lsM C Wd hl hc hk => lv_imul C.1 C.2.1 hd (k.2 p l e R s m args below meth c H locs cells slots Q lsM C Wd hl hc hk)⟩
theorem rn_iand {x y : Int32} (hd : decode (zc t) pc = .ok (.iand, 1)) (k : Rn G t (pc + 1) ls (.int (x &&& y) :: st) S r S') : Rn G t pc ls (.int y :: .int x :: st) S r S' :=
  ⟨k.1, fun p l e R s m args below meth c H locs cells slots Q lsM C Wd hl hc hk => lv_iand C.1 C.2.1 hd (k.2 p l e R s m args below meth c H locs cells slots Q lsM C Wd hl hc hk)⟩
theorem rn_ior {x y : Int32} (hd : decode (zc t) pc = .ok (.ior, 1)) (k : Rn G t (pc + 1) ls (.int (x ||| y) :: st) S r S') : Rn G t pc ls (.int y :: .int x :: st) S r S' :=
  ⟨k.1, fun p l e R s m args below meth c H locs cells slots Q lsM C Wd hl hc hk => lv_ior C.1 C.2.1 hd (k.2 p l e R s m args below meth c H locs cells slots Q lsM C Wd hl hc hk)⟩
theorem rn_ixor {x y : Int32} (hd : decode (zc t) pc = .ok (.ixor, 1)) (k : Rn G t (pc + 1) ls (.int (x ^^^ y) :: st) S r S') : Rn G t pc ls (.int y :: .int x :: st) S r S' :=
  ⟨k.1, fun p l e R s m args below meth c H locs cells slots Q lsM C Wd hl hc hk => lv_ixor C.1 C.2.1 hd (k.2 p l e R s m args below meth c H locs cells slots Q lsM C Wd hl hc hk)⟩
theorem rn_idiv {x y : Int32} (hd : decode (zc t) pc = .ok (.idiv, 1)) (hne : ¬ y = 0) (k : Rn G t (pc + 1) ls (.int (x / y) :: st) S r S') : Rn G t pc ls (.int y :: .int x :: st) S r S' :=
  ⟨k.1, fun p l e R s m args below meth c H locs cells slots Q lsM C Wd hl hc hk => lv_idiv C.1 C.2.1 hd hne (k.2 p l e R s m args below meth c H locs cells slots Q lsM C Wd hl hc hk)⟩
theorem rn_ladd {x y : Int64} (hd : decode (zc t) pc = .ok (.ladd, 1)) (k : Rn G t (pc + 1) ls (.long (x + y) :: st) S r S') : Rn G t pc ls (.long y :: .long x :: st) S r S' :=
  ⟨k.1, fun p l e R s m args below meth c H locs cells slots Q lsM C Wd hl hc hk => lv_ladd C.1 C.2.1 hd (k.2 p l e R s m args below meth c H locs cells slots Q lsM C Wd hl hc hk)⟩
theorem rn_lmul {x y : Int64} (hd : decode (zc t) pc = .ok (.lmul, 1)) (k : Rn G t (pc + 1) ls (.long (x * y) :: st) S r S') : Rn G t pc ls (.long y :: .long x :: st) S r S' :=
  ⟨k.1, fun p l e R s m args below meth c H locs cells slots Q lsM C Wd hl hc hk => lv_lmul C.1 C.2.1 hd (k.2 p l e R s m args below meth c H locs cells slots Q lsM C Wd hl hc hk)⟩
theorem rn_lcmp {x y : Int64} (hd : decode (zc t) pc = .ok (.lcmp, 1)) (k : Rn G t (pc + 1) ls (.int (lg_cmp x y) :: st) S r S') : Rn G t pc ls (.long y :: .long x :: st) S r S' :=
  ⟨k.1, fun p l e R s m args below meth c H locs cells slots Q lsM C Wd hl hc hk => W.lcmp C.1 C.2.1 hd (k.2 p l e R s m args below meth c H locs cells slots Q lsM C Wd hl hc hk)⟩
theorem rn_i2l {x : Int32} (hd : decode (zc t) pc = .ok (.i2l, 1)) (k : Rn G t (pc + 1) ls (.long x.toInt64 :: st) S r S') : Rn G t pc ls (.int x :: st) S r S' :=
  ⟨k.1, fun p l e R s m args below meth c H locs cells slots Q lsM C Wd hl hc hk => lv_i2l C.1 C.2.1 hd rfl (k.2 p l e R s m args below meth c H locs cells slots Q lsM C Wd hl hc hk)⟩
theorem rn_l2i {x : Int64} (hd : decode (zc t) pc = .ok (.l2i, 1)) (k : Rn G t (pc + 1) ls (.int x.toInt32 :: st) S r S') : Rn G t pc ls (.long x :: st) S r S' :=
  ⟨k.1, fun p l e R s m args below meth c H locs cells slots Q lsM C Wd hl hc hk => lv_l2i C.1 C.2.1 hd rfl (k.2 p l e R s m args below meth c H locs cells slots Q lsM C Wd hl hc hk)⟩
theorem rn_i2b {x : Int32} (hd : decode (zc t) pc = .ok (.i2b, 1)) (k : Rn G t (pc + 1) ls (.int x.toInt8.toInt32 :: st) S r S') : Rn G t pc ls (.int x :: st) S r S' :=
  ⟨k.1, fun p l e R s m args below meth c H locs cells slots Q lsM C Wd hl hc hk => lv_i2b C.1 C.2.1 hd rfl (k.2 p l e R s m args below meth c H locs cells slots Q lsM C Wd hl hc hk)⟩
theorem rn_iushr {x y : Int32} (hd : decode (zc t) pc = .ok (.iushr, 1)) (k : Rn G t (pc + 1) ls (.int (x.toUInt32 >>> (y.toUInt32 &&& Int32.toUInt32 31)).toInt32 :: st) S r S') : Rn G t pc ls (.int y :: .int x :: st) S r S' :=
  ⟨k.1, fun p l e R s m args below meth c H locs cells slots Q lsM C Wd hl hc hk => lv_iushr C.1 C.2.1 hd rfl (k.2 p l e R s m args below meth c H locs cells slots Q lsM C Wd hl hc hk)⟩
theorem rn_dup {v : Value} (hd : decode (zc t) pc = .ok (.dup, 1)) (hv : v.category = 1) (k : Rn G t (pc + 1) ls (v :: v :: st) S r S') : Rn G t pc ls (v :: st) S r S' :=
  ⟨k.1, fun p l e R s m args below meth c H locs cells slots Q lsM C Wd hl hc hk => lv_dup C.1 C.2.1 hd ((ztv_cat v).trans hv) (k.2 p l e R s m args below meth c H locs cells slots Q lsM C Wd hl hc hk)⟩
theorem rn_pop {v : Value} (hd : decode (zc t) pc = .ok (.pop, 1)) (hv : v.category = 1) (k : Rn G t (pc + 1) ls (st) S r S') : Rn G t pc ls (v :: st) S r S' :=
  ⟨k.1, fun p l e R s m args below meth c H locs cells slots Q lsM C Wd hl hc hk => lv_pop C.1 C.2.1 hd ((ztv_cat v).trans hv) (k.2 p l e R s m args below meth c H locs cells slots Q lsM C Wd hl hc hk)⟩
theorem rn_dup_x1 {v w : Value} (hd : decode (zc t) pc = .ok (.dup_x1, 1)) (hv : v.category = 1) (hw : w.category = 1) (k : Rn G t (pc + 1) ls (v :: w :: v :: st) S r S') : Rn G t pc ls (v :: w :: st) S r S' :=
  ⟨k.1, fun p l e R s m args below meth c H locs cells slots Q lsM C Wd hl hc hk => lv_dup_x1 C.1 C.2.1 hd ((ztv_cat v).trans hv) ((ztv_cat w).trans hw) (k.2 p l e R s m args below meth c H locs cells slots Q lsM C Wd hl hc hk)⟩
theorem rn_dup2 {v w : Value} (hd : decode (zc t) pc = .ok (.dup2, 1)) (hv : v.category = 1) (hw : w.category = 1) (k : Rn G t (pc + 1) ls (v :: w :: v :: w :: st) S r S') : Rn G t pc ls (v :: w :: st) S r S' :=
  ⟨k.1, fun p l e R s m args below meth c H locs cells slots Q lsM C Wd hl hc hk => lv_dup2_11 C.1 C.2.1 hd ((ztv_cat v).trans hv) ((ztv_cat w).trans hw) (k.2 p l e R s m args below meth c H locs cells slots Q lsM C Wd hl hc hk)⟩
theorem rn_if_eq_t {x : Int32} {off : Int} {tgt : Nat} (hc0 : x = 0) (hd : decode (zc t) pc = .ok (.ifCond .eq off, 3)) (ht : (pc : Int) + off = (tgt : Int)) (k : Rn G t tgt ls st S r S') : Rn G t pc ls (.int x :: st) S r S' :=
  ⟨k.1, fun p l e R s m args below meth c H locs cells slots Q lsM C Wd hl hc hk => lv_if_eq C.1 C.2.1 hd ht (fun _ => k.2 p l e R s m args below meth c H locs cells slots Q lsM C Wd hl hc hk) (fun z => absurd hc0 z)⟩
theorem rn_if_eq_f {x : Int32} {off : Int} {tgt : Nat} (hc0 : ¬ (x = 0)) (hd : decode (zc t) pc = .ok (.ifCond .eq off, 3)) (ht : (pc : Int) + off = (tgt : Int)) (k : Rn G t (pc + 3) ls st S r S') : Rn G t pc ls (.int x :: st) S r S' :=
  ⟨k.1, fun p l e R s m args below meth c H locs cells slots Q lsM C Wd hl hc hk => lv_if_eq C.1 C.2.1 hd ht (fun z => absurd z hc0) (fun _ => k.2 p l e R s m args below meth c H locs cells slots Q lsM C Wd hl hc hk)⟩
theorem rn_icmp_eq_t {x y : Int32} {off : Int} {tgt : Nat} (hc0 : x = y) (hd : decode (zc t) pc = .ok (.if_icmp .eq off, 3)) (ht : (pc : Int) + off = (tgt : Int)) (k : Rn G t tgt ls st S r S') : Rn G t pc ls (.int y :: .int x :: st) S r S' :=
  ⟨k.1, fun p l e R s m args below meth c H locs cells slots Q lsM C Wd hl hc hk => lv_icmp_eq C.1 C.2.1 hd ht (fun _ => k.2 p l e R s m args below meth c H locs cells slots Q lsM C Wd hl hc hk) (fun z => absurd hc0 z)⟩
theorem rn_icmp_eq_f {x y : Int32} {off : Int} {tgt : Nat} (hc0 : ¬ (x = y)) (hd : decode (zc t) pc = .ok (.if_icmp .eq off, 3)) (ht : (pc : Int) + off = (tgt : Int)) (k : Rn G t (pc + 3) ls st S r S') : Rn G t pc ls (.int y :: .int x :: st) S r S' :=
  ⟨k.1, fun p l e R s m args below meth c H locs cells slots Q lsM C Wd hl hc hk => lv_icmp_eq C.1 C.2.1 hd ht (fun z => absurd z hc0) (fun _ => k.2 p l e R s m args below meth c H locs cells slots Q lsM C Wd hl hc hk)⟩
theorem rn_if_ne_t {x : Int32} {off : Int} {tgt : Nat} (hc0 : ¬ x = 0) (hd : decode (zc t) pc = .ok (.ifCond .ne off, 3)) (ht : (pc : Int) + off = (tgt : Int)) (k : Rn G t tgt ls st S r S') : Rn G t pc ls (.int x :: st) S r S' :=
  ⟨k.1, fun p l e R s m args below meth c H locs cells slots Q lsM C Wd hl hc hk => lv_if_ne C.1 C.2.1 hd ht (fun _ => k.2 p l e R s m args below meth c H locs cells slots Q lsM C Wd hl hc hk) (fun z => absurd z hc0)⟩
theorem rn_if_ne_f {x : Int32} {off : Int} {tgt : Nat} (hc0 : x = 0) (hd : decode (zc t) pc = .ok (.ifCond .ne off, 3)) (ht : (pc : Int) + off = (tgt : Int)) (k : Rn G t (pc + 3) ls st S r S') : Rn G t pc ls (.int x :: st) S r S' :=
  ⟨k.1, fun p l e R s m args below meth c H locs cells slots Q lsM C Wd hl hc hk => lv_if_ne C.1 C.2.1 hd ht (fun z => absurd hc0 z) (fun _ => k.2 p l e R s m args below meth c H locs cells slots Q lsM C Wd hl hc hk)⟩
theorem rn_icmp_ne_t {x y : Int32} {off : Int} {tgt : Nat} (hc0 : ¬ x = y) (hd : decode (zc t) pc = .ok (.if_icmp .ne off, 3)) (ht : (pc : Int) + off = (tgt : Int)) (k : Rn G t tgt ls st S r S') : Rn G t pc ls (.int y :: .int x :: st) S r S' :=
  ⟨k.1, fun p l e R s m args below meth c H locs cells slots Q lsM C Wd hl hc hk => lv_icmp_ne C.1 C.2.1 hd ht (fun _ => k.2 p l e R s m args below meth c H locs cells slots Q lsM C Wd hl hc hk) (fun z => absurd z hc0)⟩
theorem rn_icmp_ne_f {x y : Int32} {off : Int} {tgt : Nat} (hc0 : x = y) (hd : decode (zc t) pc = .ok (.if_icmp .ne off, 3)) (ht : (pc : Int) + off = (tgt : Int)) (k : Rn G t (pc + 3) ls st S r S') : Rn G t pc ls (.int y :: .int x :: st) S r S' :=
  ⟨k.1, fun p l e R s m args below meth c H locs cells slots Q lsM C Wd hl hc hk => lv_icmp_ne C.1 C.2.1 hd ht (fun z => absurd hc0 z) (fun _ => k.2 p l e R s m args below meth c H locs cells slots Q lsM C Wd hl hc hk)⟩
theorem rn_if_lt_t {x : Int32} {off : Int} {tgt : Nat} (hc0 : x < 0) (hd : decode (zc t) pc = .ok (.ifCond .lt off, 3)) (ht : (pc : Int) + off = (tgt : Int)) (k : Rn G t tgt ls st S r S') : Rn G t pc ls (.int x :: st) S r S' :=
  ⟨k.1, fun p l e R s m args below meth c H locs cells slots Q lsM C Wd hl hc hk => lv_if_lt C.1 C.2.1 hd ht (fun _ => k.2 p l e R s m args below meth c H locs cells slots Q lsM C Wd hl hc hk) (fun z => absurd hc0 z)⟩
theorem rn_if_lt_f {x : Int32} {off : Int} {tgt : Nat} (hc0 : ¬ (x < 0)) (hd : decode (zc t) pc = .ok (.ifCond .lt off, 3)) (ht : (pc : Int) + off = (tgt : Int)) (k : Rn G t (pc + 3) ls st S r S') : Rn G t pc ls (.int x :: st) S r S' :=
  ⟨k.1, fun p l e R s m args below meth c H locs cells slots Q lsM C Wd hl hc hk => lv_if_lt C.1 C.2.1 hd ht (fun z => absurd z hc0) (fun _ => k.2 p l e R s m args below meth c H locs cells slots Q lsM C Wd hl hc hk)⟩
theorem rn_icmp_lt_t {x y : Int32} {off : Int} {tgt : Nat} (hc0 : x < y) (hd : decode (zc t) pc = .ok (.if_icmp .lt off, 3)) (ht : (pc : Int) + off = (tgt : Int)) (k : Rn G t tgt ls st S r S') : Rn G t pc ls (.int y :: .int x :: st) S r S' :=
  ⟨k.1, fun p l e R s m args below meth c H locs cells slots Q lsM C Wd hl hc hk => lv_icmp_lt C.1 C.2.1 hd ht (fun _ => k.2 p l e R s m args below meth c H locs cells slots Q lsM C Wd hl hc hk) (fun z => absurd hc0 z)⟩
theorem rn_icmp_lt_f {x y : Int32} {off : Int} {tgt : Nat} (hc0 : ¬ (x < y)) (hd : decode (zc t) pc = .ok (.if_icmp .lt off, 3)) (ht : (pc : Int) + off = (tgt : Int)) (k : Rn G t (pc + 3) ls st S r S') : Rn G t pc ls (.int y :: .int x :: st) S r S' :=
  ⟨k.1, fun p l e R s m args below meth c H locs cells slots Q lsM C Wd hl hc hk => lv_icmp_lt C.1 C.2.1 hd ht (fun z => absurd z hc0) (fun _ => k.2 p l e R s m args below meth c H locs cells slots Q lsM C Wd hl hc hk)⟩
theorem rn_if_ge_t {x : Int32} {off : Int} {tgt : Nat} (hc0 : 0 ≤ x) (hd : decode (zc t) pc = .ok (.ifCond .ge off, 3)) (ht : (pc : Int) + off = (tgt : Int)) (k : Rn G t tgt ls st S r S') : Rn G t pc ls (.int x :: st) S r S' :=
  ⟨k.1, fun p l e R s m args below meth c H locs cells slots Q lsM C Wd hl hc hk => lv_if_ge C.1 C.2.1 hd ht (fun _ => k.2 p l e R s m args below meth c H locs cells slots Q lsM C Wd hl hc hk) (fun z => absurd hc0 z)⟩
theorem rn_if_ge_f {x : Int32} {off : Int} {tgt : Nat} (hc0 : ¬ (0 ≤ x)) (hd : decode (zc t) pc = .ok (.ifCond .ge off, 3)) (ht : (pc : Int) + off = (tgt : Int)) (k : Rn G t (pc + 3) ls st S r S') : Rn G t pc ls (.int x :: st) S r S' :=
  ⟨k.1, fun p l e R s m args below meth c H locs cells slots Q lsM C Wd hl hc hk => lv_if_ge C.1 C.2.1 hd ht (fun z => absurd z hc0) (fun _ => k.2 p l e R s m args below meth c H locs cells slots Q lsM C Wd hl hc hk)⟩
theorem rn_icmp_ge_t {x y : Int32} {off : Int} {tgt : Nat} (hc0 : y ≤ x) (hd : decode (zc t) pc = .ok (.if_icmp .ge off, 3)) (ht : (pc : Int) + off = (tgt : Int)) (k : Rn G t tgt ls st S r S') : Rn G t pc ls (.int y :: .int x :: st) S r S' :=
  ⟨k.1, fun p l e R s m args below meth c H locs cells slots Q lsM C Wd hl hc hk => lv_icmp_ge C.1 C.2.1 hd ht (fun _ => k.2 p l e R s m args below meth c H locs cells slots Q lsM C Wd hl hc hk) (fun z => absurd hc0 z)⟩
theorem rn_icmp_ge_f {x y : Int32} {off : Int} {tgt : Nat} (hc0 : ¬ (y ≤ x)) (hd : decode (zc t) pc = .ok (.if_icmp .ge off, 3)) (ht : (pc : Int) + off = (tgt : Int)) (k : Rn G t (pc + 3) ls st S r S') : Rn G t pc ls (.int y :: .int x :: st) S r S' :=
  ⟨k.1, fun p l e R s m args below meth c H locs cells slots Q lsM C Wd hl hc hk => lv_icmp_ge C.1 C.2.1 hd ht (fun z => absurd z hc0) (fun _ => k.2 p l e R s m args below meth c H locs cells slots Q lsM C Wd hl hc hk)⟩
theorem rn_if_gt_t {x : Int32} {off : Int} {tgt : Nat} (hc0 : 0 < x) (hd : decode (zc t) pc = .ok (.ifCond .gt off, 3)) (ht : (pc : Int) + off = (tgt : Int)) (k : Rn G t tgt ls st S r S') : Rn G t pc ls (.int x :: st) S r S' :=
  ⟨k.1, fun p l e R s m args below meth c H locs cells slots Q lsM C Wd hl hc hk => lv_if_gt C.1 C.2.1 hd ht (fun _ => k.2 p l e R s m args below meth c H locs cells slots Q lsM C Wd hl hc hk) (fun z => absurd hc0 z)⟩
theorem rn_if_gt_f {x : Int32} {off : Int} {tgt : Nat} (hc0 : ¬ (0 < x)) (hd : decode (zc t) pc = .ok (.ifCond .gt off, 3)) (ht : (pc : Int) + off = (tgt : Int)) (k : Rn G t (pc + 3) ls st S r S') : Rn G t pc ls (.int x :: st) S r S' :=
  ⟨k.1, fun p l e R s m args below meth c H locs cells slots Q lsM C Wd hl hc hk => lv_if_gt C.1 C.2.1 hd ht (fun z => absurd z hc0) (fun _ => k.2 p l e R s m args below meth c H locs cells slots Q lsM C Wd hl hc hk)⟩
theorem rn_icmp_gt_t {x y : Int32} {off : Int} {tgt : Nat} (hc0 : y < x) (hd : decode (zc t) pc = .ok (.if_icmp .gt off, 3)) (ht : (pc : Int) + off = (tgt : Int)) (k : Rn G t tgt ls st S r S') : Rn G t pc ls (.int y :: .int x :: st) S r S' :=
  ⟨k.1, fun p l e R s m args below meth c H locs cells slots Q lsM C Wd hl hc hk => lv_icmp_gt C.1 C.2.1 hd ht (fun _ => k.2 p l e R s m args below meth c H locs cells slots Q lsM C Wd hl hc hk) (fun z => absurd hc0 z)⟩
theorem rn_icmp_gt_f {x y : Int32} {off : Int} {tgt : Nat} (hc0 : ¬ (y < x)) (hd : decode (zc t) pc = .ok (.if_icmp .gt off, 3)) (ht : (pc : Int) + off = (tgt : Int)) (k : Rn G t (pc + 3) ls st S r S') : Rn G t pc ls (.int y :: .int x :: st) S r S' :=
  ⟨k.1, fun p l e R s m args below meth c H locs cells slots Q lsM C Wd hl hc hk => lv_icmp_gt C.1 C.2.1 hd ht (fun z => absurd z hc0) (fun _ => k.2 p l e R s m args below meth c H locs cells slots Q lsM C Wd hl hc hk)⟩
theorem rn_if_le_t {x : Int32} {off : Int} {tgt : Nat} (hc0 : x ≤ 0) (hd : decode (zc t) pc = .ok (.ifCond .le off, 3)) (ht : (pc : Int) + off = (tgt : Int)) (k : Rn G t tgt ls st S r S') : Rn G t pc ls (.int x :: st) S r S' :=
  ⟨k.1, fun p l e R s m args below meth c H locs cells slots Q lsM C Wd hl hc hk => lv_if_le C.1 C.2.1 hd ht (fun _ => k.2 p l e R s m args below meth c H locs cells slots Q lsM C Wd hl hc hk) (fun z => absurd hc0 z)⟩
theorem rn_if_le_f {x : Int32} {off : Int} {tgt : Nat} (hc0 : ¬ (x ≤ 0)) (hd : decode (zc t) pc = .ok (.ifCond .le off, 3)) (ht : (pc : Int) + off = (tgt : Int)) (k : Rn G t (pc + 3) ls st S r S') : Rn G t pc ls (.int x :: st) S r S' :=
  ⟨k.1, fun p l e R s m args below meth c H locs cells slots Q lsM C Wd hl hc hk => lv_if_le C.1 C.2.1 hd ht (fun z => absurd z hc0) (fun _ => k.2 p l e R s m args below meth c H locs cells slots Q lsM C Wd hl hc hk)⟩
theorem rn_icmp_le_t {x y : Int32} {off : Int} {tgt : Nat} (hc0 : x ≤ y) (hd : decode (zc t) pc = .ok (.if_icmp .le off, 3)) (ht : (pc : Int) + off = (tgt : Int)) (k : Rn G t tgt ls st S r S') : Rn G t pc ls (.int y :: .int x :: st) S r S' :=
  ⟨k.1, fun p l e R s m args below meth c H locs cells slots Q lsM C Wd hl hc hk => lv_icmp_le C.1 C.2.1 hd ht (fun _ => k.2 p l e R s m args below meth c H locs cells slots Q lsM C Wd hl hc hk) (fun z => absurd hc0 z)⟩
theorem rn_icmp_le_f {x y : Int32} {off : Int} {tgt : Nat} (hc0 : ¬ (x ≤ y)) (hd : decode (zc t) pc = .ok (.if_icmp .le off, 3)) (ht : (pc : Int) + off = (tgt : Int)) (k : Rn G t (pc + 3) ls st S r S') : Rn G t pc ls (.int y :: .int x :: st) S r S' :=
  ⟨k.1, fun p l e R s m args below meth c H locs cells slots Q lsM C Wd hl hc hk => lv_icmp_le C.1 C.2.1 hd ht (fun z => absurd z hc0) (fun _ => k.2 p l e R s m args below meth c H locs cells slots Q lsM C Wd hl hc hk)⟩
theorem rn_irem {x y : Int32} (hd : decode (zc t) pc = .ok (.irem, 1)) (hne : ¬ y = 0) (k : Rn G t (pc + 1) ls (.int (x - x / y * y) :: st) S r S') : Rn G t pc ls (.int y :: .int x :: st) S r S' :=
  ⟨k.1, fun p l e R s m args below meth c H locs cells slots Q lsM C Wd hl hc hk => lv_irem C.1 C.2.1 hd hne (k.2 p l e R s m args below meth c H locs cells slots Q lsM C Wd hl hc hk)⟩
theorem rn_ineg {x : Int32} (hd : decode (zc t) pc = .ok (.ineg, 1)) (k : Rn G t (pc + 1) ls (.int (-x) :: st) S r S') : Rn G t pc ls (.int x :: st) S r S' :=
  ⟨k.1, fun p l e R s m args below meth c H locs cells slots Q lsM C Wd hl hc hk => lv_ineg C.1 C.2.1 hd (k.2 p l e R s m args below meth c H locs cells slots Q lsM C Wd hl hc hk)⟩
theorem rn_ishl {x y : Int32} (hd : decode (zc t) pc = .ok (.ishl, 1)) (k : Rn G t (pc + 1) ls (.int (x <<< (y &&& 31)) :: st) S r S') : Rn G t pc ls (.int y :: .int x :: st) S r S' :=
  ⟨k.1, fun p l e R s m args below meth c H locs cells slots Q lsM C Wd hl hc hk => lv_ishl C.1 C.2.1 hd (k.2 p l e R s m args below meth c H locs cells slots Q lsM C Wd hl hc hk)⟩
theorem rn_ishr {x y : Int32} (hd : decode (zc t) pc = .ok (.ishr, 1)) (k : Rn G t (pc + 1) ls (.int (x >>> (y &&& 31)) :: st) S r S') : Rn G t pc ls (.int y :: .int x :: st) S r S' :=
  ⟨k.1, fun p l e R s m args below meth c H locs cells slots Q lsM C Wd hl hc hk => lv_ishr C.1 C.2.1 hd (k.2 p l e R s m args below meth c H locs cells slots Q lsM C Wd hl hc hk)⟩
theorem rn_goto {off : Int} {tgt : Nat} (hd : decode (zc t) pc = .ok (.goto off, 3)) (ht : (pc : Int) + off = (tgt : Int)) (k : Rn G t tgt ls st S r S') : Rn G t pc ls st S r S' :=
  ⟨k.1, fun p l e R s m args below meth c H locs cells slots Q lsM C Wd hl hc hk => lv_goto C.1 C.2.1 hd ht (k.2 p l e R s m args below meth c H locs cells slots Q lsM C Wd hl hc hk)⟩
theorem rn_nonnull {a : Nat} {off : Int} {tgt : Nat} (hd : decode (zc t) pc = .ok (.ifnonnull off, 3)) (ht : (pc : Int) + off = (tgt : Int)) (k : Rn G t tgt ls st S r S') : Rn G t pc ls (.ref a :: st) S r S' :=
  ⟨k.1, fun p l e R s m args below meth c H locs cells slots Q lsM C Wd hl hc hk => lv_ifnonnull C.1 C.2.1 hd ht (k.2 p l e R s m args below meth c H locs cells slots Q lsM C Wd hl hc hk)⟩
theorem rn_tblOut {dflt lo hi : Int} {offs : Array Int} {len : Nat} {x : Int32} {tgt : Nat} (hd : decode (zc t) pc = .ok (.tableswitch dflt lo hi offs, len)) (h : x.toInt < lo ∨ hi < x.toInt) (ht : (pc : Int) + dflt = (tgt : Int)) (k : Rn G t tgt ls st S r S') : Rn G t pc ls (.int x :: st) S r S' :=
  ⟨k.1, fun p l e R s m args below meth c H locs cells slots Q lsM C Wd hl hc hk => lv_tableOut C.1 C.2.1 hd h ht (k.2 p l e R s m args below meth c H locs cells slots Q lsM C Wd hl hc hk)⟩
theorem rn_tblIn {dflt lo hi : Int} {offs : Array Int} {len : Nat} {v : Int} {x : Int32} {off : Int} {tgt : Nat} (hd : decode (zc t) pc = .ok (.tableswitch dflt lo hi offs, len)) (hv : x.toInt = v) (h1 : ¬ v < lo) (h2 : ¬ hi < v) (ho : offs[(v - lo).toNat]? = some off) (ht : (pc : Int) + off = (tgt : Int)) (k : Rn G t tgt ls st S r S') : Rn G t pc ls (.int x :: st) S r S' :=
  ⟨k.1, fun p l e R s m args below meth c H locs cells slots Q lsM C Wd hl hc hk => lv_tableIn C.1 C.2.1 hd (by rw [hv]; exact h1) (by rw [hv]; exact h2) (by rw [hv]; exact ho) ht (k.2 p l e R s m args below meth c H locs cells slots Q lsM C Wd hl hc hk)⟩
theorem rn_vret (hd : decode (zc t) pc = .ok (.return_, 1)) (hr : zr t = none) : Rn G t pc ls [] S none S :=
  ⟨zmono.rf, fun p l e R s m args below meth c H locs cells slots Q lsM C Wd hl hc hk => hk H locs lsM pc cells slots ⟨hd, hr⟩ Wd rfl rfl⟩
theorem rn_iret {x : Int32} (hd : decode (zc t) pc = .ok (.ireturn, 1)) (hr : zr t = some .int) : Rn G t pc ls [.int x] S (some (.int x)) S :=
  ⟨zmono.rf, fun p l e R s m args below meth c H locs cells slots Q lsM C Wd hl hc hk => hk H locs lsM pc cells slots ⟨hd, .int, hr, rfl⟩ Wd rfl rfl⟩
theorem rn_zret {x : Int32} (hd : decode (zc t) pc = .ok (.ireturn, 1)) (hr : zr t = some .boolean) (hx : narrow .boolean (.int x) = .int x) : Rn G t pc ls [.int x] S (some (.int x)) S :=
  ⟨zmono.rf, fun p l e R s m args below meth c H locs cells slots Q lsM C Wd hl hc hk => hk H locs lsM pc cells slots ⟨hd, .boolean, hr, hx⟩ Wd rfl rfl⟩
theorem rn_lret {x : Int64} (hd : decode (zc t) pc = .ok (.lreturn, 1)) (hr : zr t = some .long) : Rn G t pc ls [.long x] S (some (.long x)) S :=
  ⟨zmono.rf, fun p l e R s m args below meth c H locs cells slots Q lsM C Wd hl hc hk => hk H locs lsM pc cells slots ⟨hd, hr⟩ Wd rfl rfl⟩
end ROWS
theorem zK0.len {K : zK} (h : zK0 K) : 2 ≤ K.length := (List.getElem?_eq_some_iff.mp h.2).1
theorem zK0.two {K : zK} (h : zK0 K) {a : Nat} {kd : Nat × Nat} (hk : K[a]? = some kd) (ht : kd.1 < 90) : 2 ≤ a := by
  match a, hk with
  | 0, hk => rw [h.1] at hk; cases hk; exact absurd ht (by decide)
  | 1, hk => rw [h.2] at hk; cases hk; exact absurd ht (by decide)
  | a + 2, _ => omega
def zup (M : zM) (a k : Nat) (v : Int32) : zM := fun b j => if b = a then (if j = k then v else M b j) else M b j
def zupL (M : zL) (a k : Nat) (v : Int64) : zL := fun b j => if b = a then (if j = k then v else M b j) else M b j
def zupR (M : zR) (a k : Nat) (v : Nat) : zR := fun b j => if b = a then (if j = k then v else M b j) else M b j
def zzM (M : zM) (a : Nat) : zM := fun b j => if b = a then 0 else M b j
def zzL (M : zL) (a : Nat) : zL := fun b j => if b = a then 0 else M b j
def zzR (M : zR) (a : Nat) : zR := fun b j => if b = a then 0 else M b j
def zin (i : Int32) (n : Nat) : Bool := decide (0 ≤ i) && decide (i.toNatClampNeg < n)
theorem zin_vp {i : Int32} {n : Nat} (h : zin i n = true) : vp_in i n := by
  unfold zin at h
  rw [Bool.and_eq_true, decide_eq_true_eq, decide_eq_true_eq] at h
  intro q
  rcases q with q | q
  · have h1 := Int32.le_iff_toInt_le.mp h.1
    have h2 := Int32.lt_iff_toInt_lt.mp q
    have e0 : (0 : Int32).toInt = 0 := rfl
    omega
  · omega
def zfok (f : FieldType) : Bool := match f with
  | .int => true
  | .boolean => true
  | .object _ => true
  | .array _ => true
  | _ => false
theorem zfok_of {f : FieldType} (h : zfok f = true) : f = .int ∨ f = .boolean ∨ (∃ x, f = .object x) ∨ ∃ x, f = .array x := by
  cases f <;> first | exact absurd h (by decide) | exact Or.inl rfl | exact Or.inr (Or.inl rfl) | exact Or.inr (Or.inr (Or.inl ⟨_, rfl⟩)) | exact Or.inr (Or.inr (Or.inr ⟨_, rfl⟩))
def zCls (ci : Nat) (C : String) (T : u_T) (N : Nat) (ty : Nat → FieldType) : Prop :=
  zcl[ci]? = some (C, T, N) ∧ ci < 20 ∧ (∀ w ∈ u_ws C T N, zIn w) ∧ (∀ k, k < N → parseFieldDescriptor (T k).2.2.1 = some (ty k)) ∧ (∀ a, a < N → ∀ b, b < N → a ≠ b → (T a).2.1 ≠ (T b).2.1) ∧ (∀ k, k < N → zfok (ty k) = true)
def zFld (own : String) (idx ci N k : Nat) (f : FieldType) (fin nest : Bool) : Prop :=
  ∃ (C : String) (T : u_T) (ty : Nat → FieldType), zCls ci C T N ty ∧ k < N ∧ ty k = f ∧ (T k).2.2.2 = fin ∧ (T k).1 = C ∧ (fin = true → nest = false → C = own) ∧ ((nest = false ∧ zIn (.fieldLink own idx C (T k).2.1 (T k).2.2.1)) ∨ (nest = true ∧ ∃ host, zIn (.fieldLinkNest own idx C (T k).2.1 (T k).2.2.1 host)))
theorem zft_of {ci : Nat} {C : String} {T : u_T} {N : Nat} {ty : Nat → FieldType} (h : zCls ci C T N ty) {k : Nat} (hk : k < N) : zft ci k = match ty k with
  | .int => 0
  | .boolean => 1
  | _ => 2 := by
  unfold zft
  rw [List.getD_eq_getElem?_getD, h.1]
  simp only [Option.getD_some]
  rw [h.2.2.2.1 k hk]
  generalize ty k = f
  cases f <;> rfl
theorem zent_obj {G : zG} {S : zS} {a ci n : Nat} (h : ci < 20) : zent G S a (ci, n) = .inr (ci, zflds G S a ci n) := by unfold zent; rw [if_pos h]
theorem zflds_at {G : zG} {S : zS} {a ci n k : Nat} (h : k < n) : (zflds G S a ci n)[k]? = some (zfv G S a ci k) := by
  unfold zflds
  rw [List.getElem?_map, List.getElem?_range h]
  rfl
theorem zflds_len {G : zG} {S : zS} {a ci n : Nat} : (zflds G S a ci n).length = n := by simp [zflds]
theorem zflds_set {G : zG} {S S' : zS} {a ci n k : Nat} (he : ∀ j, j ≠ k → zfv G S' a ci j = zfv G S a ci j) : (zflds G S a ci n).set k (zfv G S' a ci k) = zflds G S' a ci n := by
  apply List.ext_getElem?
  intro j
  by_cases hj : j = k
  · subst hj
    by_cases hn : j < n
    · rw [List.getElem?_set_self (by rw [zflds_len]; exact hn), zflds_at hn]
    · rw [List.getElem?_eq_none (by rw [List.length_set, zflds_len]; omega), List.getElem?_eq_none (by rw [zflds_len]; omega)]
  · rw [List.getElem?_set_ne (Ne.symm hj)]
    by_cases hn : j < n
    · rw [zflds_at hn, zflds_at hn, he j hj]
    · rw [List.getElem?_eq_none (by rw [zflds_len]; omega), List.getElem?_eq_none (by rw [zflds_len]; omega)]
/-- the store changes at one address -/
theorem zE_set {G : zG} {S S' : zS} {a : Nat} {kd : Nat × Nat} {H H1 : Heap} (hE : zE G S H) (hk : S.2.2.2[a]? = some kd) (h2 : 2 ≤ a) (hK : S'.2.2.2 = S.2.2.2) (he : ∀ b, b ≠ a → ∀ k, zent G S' b k = zent G S b k) (hz : H1.size = H.size)
    (hP : va_P (zGD G) zcl ((zwl G S).set (a - 2) (zad G a, zent G S' a kd)) H1) : zE G S' H1 := by
  refine ⟨by rw [hz, hK]; exact hE.1, ?_⟩
  rw [← zwl_set h2 hk hK he]
  exact hP
theorem zent_M {G : zG} {M M' : zM} {L : zL} {R : zR} {K : zK} {a : Nat} (h : ∀ b, b ≠ a → M' b = M b) : ∀ b, b ≠ a → ∀ k, zent G (M', L, R, K) b k = zent G (M, L, R, K) b k := by
  intro b hb k
  unfold zent zflds zfv
  simp only
  rw [h b hb]
theorem zent_L {G : zG} {M : zM} {L L' : zL} {R : zR} {K : zK} {a : Nat} (h : ∀ b, b ≠ a → L' b = L b) : ∀ b, b ≠ a → ∀ k, zent G (M, L', R, K) b k = zent G (M, L, R, K) b k := by
  intro b hb k
  unfold zent zflds zfv
  simp only
  rw [h b hb]
theorem zent_R {G : zG} {M : zM} {L : zL} {R R' : zR} {K : zK} {a : Nat} (h : ∀ b, b ≠ a → R' b = R b) : ∀ b, b ≠ a → ∀ k, zent G (M, L, R', K) b k = zent G (M, L, R, K) b k := by
  intro b hb k
  unfold zent zflds zfv
  simp only
  rw [h b hb]
theorem zup_ne {M : zM} {a k : Nat} {v : Int32} : ∀ b, b ≠ a → zup M a k v b = M b := fun b hb => by funext j; simp [zup, hb]
theorem zupL_ne {M : zL} {a k : Nat} {v : Int64} : ∀ b, b ≠ a → zupL M a k v b = M b := fun b hb => by funext j; simp [zupL, hb]
theorem zupR_ne {M : zR} {a k : Nat} {v : Nat} : ∀ b, b ≠ a → zupR M a k v b = M b := fun b hb => by funext j; simp [zupR, hb]
section MEM
variable {G : zG} {t : zMT} {pc : Nat} {ls : List (Nat × Value)} {st : List Value} {S' : zS} {r : Option Value} {M : zM} {L : zL} {R0 : zR} {K : zK}
theorem zget_of {p : Program} {l : Launch} {e : Env} {R : Room} {s : State} {m : MethodId} {args : Array Value} {below : List Frame} {meth : Method} {c : Code} {H : Heap} {locs : List Loc} {cells slots : Nat} {Q : State → Prop} {lsM : Array Slot} {S : zS} {rest : List Value}
    {idx ci N k a : Nat} {f : FieldType} {fin nest : Bool} (C : zCtx G t p R s m meth c) (Wd : zW G S s H locs) (hf : zFld (zo t) idx ci N k f fin nest) (hk : S.2.2.2[a]? = some (ci, N)) (hd : decode (zc t) pc = .ok (.getfield idx, 3))
    (kk : W p l e R s m args below meth c H locs cells slots Q (F0 m (pc + 3) lsM (zfv G S a ci k :: rest))) : W p l e R s m args below meth c H locs cells slots Q (F0 m pc lsM (.ref (zad G a) :: rest)) := by
  obtain ⟨C0, T, ty, hC, hkN, hty, hfin, hT1, -, hln⟩ := hf
  have h2 := Wd.1.1.2.two hk (Nat.lt_of_lt_of_le hC.2.1 (by decide))
  have hat := zwl_get (G := G) h2 hk
  rw [zent_obj hC.2.1] at hat
  have hTB := C.2.2.2.2.2.2.2.1.2.1
  rcases hln with ⟨hnest, hln⟩ | ⟨hnest, host, hln⟩
  · exact va_get (ws := zwl G S) C.1 C.2.1 (Ts := u_ws C0 T N) (fun w hw => hTB w (hC.2.2.1 w hw) args) (fun _ h => h) C.2.2.2.2.1 C.2.2.2.2.2.2.2.1.1 Wd.1.2 (a - 2) hat hC.1 k hkN (ref := C0) (hTB _ hln args) (fun x hx => by rw [hT1] at hx; exact hx) (zflds_at hkN) hd kk
  · exact va_getN (ws := zwl G S) C.1 C.2.1 (Ts := u_ws C0 T N) (fun w hw => hTB w (hC.2.2.1 w hw) args) (fun _ h => h) C.2.2.2.2.1 C.2.2.2.2.2.2.2.1.1 Wd.1.2 (a - 2) hat hC.1 k hkN (ref := C0) (hTB _ hln args) (fun x hx => by rw [hT1] at hx; exact hx) (zflds_at hkN) hd kk
theorem zfv_i {G : zG} {S : zS} {a ci k N : Nat} {C : String} {T : u_T} {ty : Nat → FieldType} {f : FieldType} (hC : zCls ci C T N ty) (hk : k < N) (hty : ty k = f) (hf : f = .int ∨ f = .boolean) : zfv G S a ci k = .int (S.1 a k) := by
  unfold zfv
  rw [zft_of hC hk, hty]
  rcases hf with rfl | rfl <;> rfl
theorem zfv_r {G : zG} {S : zS} {a ci k N : Nat} {C : String} {T : u_T} {ty : Nat → FieldType} {f : FieldType} (hC : zCls ci C T N ty) (hk : k < N) (hty : ty k = f) (hf : (∃ n, f = .object n) ∨ ∃ n, f = .array n) : zfv G S a ci k = va_rf (zopt G (S.2.2.1 a k)) := by
  unfold zfv
  rw [zft_of hC hk, hty]
  rcases hf with ⟨n, rfl⟩ | ⟨n, rfl⟩ <;> rfl
theorem rn_getI {idx ci N k a : Nat} {f : FieldType} {fin nest : Bool} (hf : zFld (zo t) idx ci N k f fin nest) (hfi : f = .int ∨ f = .boolean) (hk : K[a]? = some (ci, N)) (hd : decode (zc t) pc = .ok (.getfield idx, 3))
    (k1 : Rn G t (pc + 3) ls (.int (M a k) :: st) (M, L, R0, K) r S') : Rn G t pc ls (.ref a :: st) (M, L, R0, K) r S' :=
  ⟨k1.1, fun p l e R s m args below meth c H locs cells slots Q lsM C Wd hl hc hk1 => zget_of C Wd hf hk hd (by
    obtain ⟨C0, T, ty, hC, hkN, hty, -⟩ := hf
    rw [zfv_i hC hkN hty hfi]
    exact k1.2 p l e R s m args below meth c H locs cells slots Q lsM C Wd hl hc hk1)⟩
theorem rn_getR {idx ci N k a : Nat} {f : FieldType} {fin nest : Bool} (hf : zFld (zo t) idx ci N k f fin nest) (hfi : (∃ n, f = .object n) ∨ ∃ n, f = .array n) (hk : K[a]? = some (ci, N)) (hne : R0 a k ≠ 0) (hd : decode (zc t) pc = .ok (.getfield idx, 3))
    (k1 : Rn G t (pc + 3) ls (.ref (R0 a k) :: st) (M, L, R0, K) r S') : Rn G t pc ls (.ref a :: st) (M, L, R0, K) r S' :=
  ⟨k1.1, fun p l e R s m args below meth c H locs cells slots Q lsM C Wd hl hc hk1 => zget_of C Wd hf hk hd (by
    obtain ⟨C0, T, ty, hC, hkN, hty, -⟩ := hf
    rw [zfv_r hC hkN hty hfi]
    show W p l e R s m args below meth c H locs cells slots Q (F0 m (pc + 3) lsM (va_rf (zopt G (R0 a k)) :: _))
    unfold zopt
    rw [if_neg hne]
    exact k1.2 p l e R s m args below meth c H locs cells slots Q lsM C Wd hl hc hk1)⟩
theorem zS_put {A : Nat → Prop} {H0 H H1 : Heap} {locs : List Loc} (h : va_S A H0 H locs) {P : Prop} (_ : P) : va_S A H0 H locs := h
/-- a field's write, at the machine -/
theorem zput_of {p : Program} {l : Launch} {e : Env} {R : Room} {s : State} {m : MethodId} {args : Array Value} {below : List Frame} {meth : Method} {c : Code} {H : Heap} {locs : List Loc} {cells slots : Nat} {Q : State → Prop} {lsM : Array Slot} {S S1 : zS} {rest : List Value} {v : Value}
    {idx ci N k a : Nat} {f : FieldType} {fin nest : Bool} (C : zCtx G t p R s m meth c) (Wd : zW G S s H locs) (hf : zFld (zo t) idx ci N k f fin nest) (hk : S.2.2.2[a]? = some (ci, N)) (hinit : fin = true → (zy t).name = "<init>" ∧ nest = false) (hd : decode (zc t) pc = .ok (.putfield idx, 3))
    (hn : narrow f v = v) (hfit : fits f v = true) (hK : S1.2.2.2 = S.2.2.2) (he : ∀ b, b ≠ a → ∀ k, zent G S1 b k = zent G S b k) (hv : zfv G S1 a ci k = v) (hj : ∀ j, j ≠ k → zfv G S1 a ci j = zfv G S a ci j)
    (kk : ∀ (H1 : Heap) (locs1 : List Loc), zW G S1 s H1 locs1 → W p l e R s m args below meth c H1 locs1 cells slots Q (F0 m (pc + 3) lsM rest)) : W p l e R s m args below meth c H locs cells slots Q (F0 m pc lsM (v :: .ref (zad G a) :: rest)) := by
  obtain ⟨C0, T, ty, hC, hkN, hty, hfin, hT1, hown1, hln⟩ := hf
  have h2 := Wd.1.1.2.two hk (Nat.lt_of_lt_of_le hC.2.1 (by decide))
  have hat := zwl_get (G := G) h2 hk
  rw [zent_obj hC.2.1] at hat
  have hTB := C.2.2.2.2.2.2.2.1.2.1
  have fin2 : ∀ (H1 : Heap) (locs1 : List Loc), va_P (zGD G) zcl ((zwl G S).set (a - 2) (zad G a, .inr (ci, (zflds G S a ci N).set k v))) H1 → va_S (zA G) s.heap H1 locs1 → H1.size = H.size → zW G S1 s H1 locs1 := by
    intro H1 locs1 hP1 hS1 hz
    refine ⟨zE_set Wd.1 hk h2 hK he hz ?_, hS1⟩
    rw [zent_obj hC.2.1, ← zflds_set hj, hv]
    exact hP1
  have hsz : ∀ (H1 : Heap), H1.size = H.size → H1.size = H.size := fun _ h => h
  have hap := va_apart (own := zo t) (s := s) (args := args) (Ts := u_ws C0 T N) (fun w hw => hTB w (hC.2.2.1 w hw) args) (fun _ h => h) ty hC.2.2.2.1 hC.2.2.2.2.1 C.2.2.2.2.2.2.2.1.1 hC.1
  obtain ⟨r1, g1, cell, q1, q2, q3, q4⟩ := Wd.1.2 (a - 2) _ hat
  have hr : r1 = (C0, T, N) := Option.some.inj (g1.symm.trans hC.1)
  subst hr
  obtain ⟨hS0, hfc, kC, hkC, hkind⟩ := C.2.2.2.2.2.2.2.1.1.1 ci _ hC.1
  obtain ⟨cf, kf, fi, fd, hi, hsl⟩ := hS0 k hkN
  have hlay := hTB _ (hC.2.2.1 _ (u_in_lay hkN)) args
  have hst := (u_facts hfc hkC (u_lays (s := s) (args := args) (ws := u_ws C0 T N) (fun w hw => hTB w (hC.2.2.1 w hw) args) (fun _ h => h) hkN) hi).1
  have hd4 : parseFieldDescriptor (T k).2.2.1 = some f := by rw [hC.2.2.2.1 k hkN, hty]
  have last : ∀ (H1 : Heap), H1[zad G a]? = some (cell.setSlot (zGD G |>.2 ci k) v) → H1.size = H.size → (∀ q, q ≠ zad G a → H1[q]? = H[q]?) → W p l e R s m args below meth c H1 (locs ++ [⟨zad G a, (zGD G |>.2 ci k)⟩]) cells slots Q (F0 m (pc + 3) lsM rest) := by
    intro H1 e1 e2 e3
    refine kk H1 _ (fin2 H1 _ (Wd.1.2.set zwl_D hat ⟨_, hC.1, t_OB.to (V := updV (vp_V (zflds G S a ci N)) k v) ⟨_, e1, q2, q3, t_set q4 hap hkN v⟩ (fun j _ => vp_updV_set (by rw [zflds_len]; exact hkN) v j)⟩ e3) (Wd.2.put e2 e3 (zwl_D.2 (a - 2) _ hat)) e2)
  unfold u_lay at hlay
  cases fin with
  | false =>
    rw [if_neg (by rw [hfin]; decide)] at hlay
    have h6 := u_store hfc hkC hkind hlay hi hd4 hn hfit
    rcases hln with ⟨hnest, hln⟩ | ⟨hnest, host, hln⟩
    · refine W.putK C.1 C.2.1 (f := fd) ⟨C.2.2.2.2.1, hTB _ hln args, ⟨_, _, _, by rw [hT1] at hi; exact hi⟩, hst⟩ (by rw [q2]; exact h6) q1 q3 (by rw [hsl]; exact k2_hasslot (q4 k hkN)) rfl rfl hd fun H' e1 e2 e3 => ?_
      rw [hsl] at e1 ⊢
      exact last H' e1 e2 e3
    · refine va_WputK C.1 C.2.1 (f := fd) C.2.2.2.2.1 (hTB _ hln args) (by rw [hT1] at hi; exact hi) hst (by rw [q2]; exact h6) q1 q3 (by rw [hsl]; exact k2_hasslot (q4 k hkN)) rfl rfl hd fun H' e1 e2 e3 => ?_
      rw [hsl] at e1 ⊢
      exact last H' e1 e2 e3
  | true =>
    rw [if_pos hfin] at hlay
    have hown2 : C0 = zo t := hown1 rfl (hinit rfl).2
    have hcf : m.cls = cf := by
      obtain ⟨_, _, c', _, _, _, -, -, hf', -, -, -, ho2, -⟩ := Cond.laysFinal_spec hlay
      have e1 : c' = cf := by have := hi.symm.trans hf'; simp at this; exact this.1.symm
      rw [hT1, hown2] at ho2
      rw [← e1]; exact Option.some.inj (C.2.2.2.2.1.symm.trans ho2)
    have h6 := u_fits hfc hkC hkind (Or.inr hlay) hi hd4 hn hfit
    rcases hln with ⟨hnest, hln⟩ | ⟨hnest, host, hln⟩
    · refine W.putFinK C.1 C.2.1 C.2.2.2.2.1 (hTB _ hln args) (by rw [hT1] at hi; exact hi) hst hcf (C.2.2.2.2.2.1.trans (hinit rfl).1) (by rw [q2]; exact h6) q1 q3 (by rw [hsl]; exact k2_hasslot (q4 k hkN)) rfl rfl hd fun H' e1 e2 e3 => ?_
      rw [hsl] at e1 ⊢
      exact last H' e1 e2 e3
    · rw [(hinit rfl).2] at hnest
      cases hnest
theorem rn_putI {idx ci N k a : Nat} {v : Int32} {nest : Bool} {M1 : zM} (hM : M1 = zup M a k v) (hf : zFld (zo t) idx ci N k .int false nest) (hk : K[a]? = some (ci, N)) (hd : decode (zc t) pc = .ok (.putfield idx, 3))
    (k1 : Rn G t (pc + 3) ls st (M1, L, R0, K) r S') : Rn G t pc ls (.int v :: .ref a :: st) (M, L, R0, K) r S' := by
  subst hM
  refine ⟨k1.1, fun p l e R s m args below meth c H locs cells slots Q lsM C Wd hl hc hk1 => ?_⟩
  have hft : ∃ (C0 : String) (T : u_T) (ty : Nat → FieldType), zCls ci C0 T N ty ∧ k < N ∧ ty k = .int := by
    obtain ⟨C0, T, ty, hC, hkN, hty, -⟩ := hf
    exact ⟨C0, T, ty, hC, hkN, hty⟩
  obtain ⟨C0, T, ty, hC, hkN, hty⟩ := hft
  refine zput_of (S1 := (zup M a k v, L, R0, K)) C Wd hf hk (fun h => by cases h) hd rfl rfl rfl (zent_M zup_ne) ?_ ?_ (fun H1 locs1 W1 => k1.2 p l e R s m args below meth c H1 locs1 cells slots Q lsM C W1 hl hc hk1)
  · rw [zfv_i hC hkN hty (Or.inl rfl)]
    simp [zup, ztv]
  · intro j hj
    simp [zfv, zup, hj]
theorem rn_putB {idx ci N k a : Nat} {v : Int32} {nest : Bool} {M1 : zM} (hv01 : v = 0 ∨ v = 1) (hM : M1 = zup M a k v) (hf : zFld (zo t) idx ci N k .boolean false nest) (hk : K[a]? = some (ci, N)) (hd : decode (zc t) pc = .ok (.putfield idx, 3))
    (k1 : Rn G t (pc + 3) ls st (M1, L, R0, K) r S') : Rn G t pc ls (.int v :: .ref a :: st) (M, L, R0, K) r S' := by
  subst hM
  refine ⟨k1.1, fun p l e R s m args below meth c H locs cells slots Q lsM C Wd hl hc hk1 => ?_⟩
  have hft : ∃ (C0 : String) (T : u_T) (ty : Nat → FieldType), zCls ci C0 T N ty ∧ k < N ∧ ty k = .boolean := by
    obtain ⟨C0, T, ty, hC, hkN, hty, -⟩ := hf
    exact ⟨C0, T, ty, hC, hkN, hty⟩
  obtain ⟨C0, T, ty, hC, hkN, hty⟩ := hft
  refine zput_of (S1 := (zup M a k v, L, R0, K)) C Wd hf hk (fun h => by cases h) hd (by rcases hv01 with rfl | rfl <;> rfl) (by rcases hv01 with rfl | rfl <;> rfl) rfl (zent_M zup_ne) ?_ ?_ (fun H1 locs1 W1 => k1.2 p l e R s m args below meth c H1 locs1 cells slots Q lsM C W1 hl hc hk1)
  · rw [zfv_i hC hkN hty (Or.inr rfl)]
    simp [zup, ztv]
  · intro j hj
    simp [zfv, zup, hj]
theorem rn_putR {idx ci N k a b : Nat} {f : FieldType} {fin nest : Bool} {R1 : zR} (hM : R1 = zupR R0 a k b) (hb : b ≠ 0) (hfi : (∃ n, f = .object n) ∨ ∃ n, f = .array n) (hinit : fin = true → (zy t).name = "<init>" ∧ nest = false) (hf : zFld (zo t) idx ci N k f fin nest) (hk : K[a]? = some (ci, N)) (hd : decode (zc t) pc = .ok (.putfield idx, 3))
    (k1 : Rn G t (pc + 3) ls st (M, L, R1, K) r S') : Rn G t pc ls (.ref b :: .ref a :: st) (M, L, R0, K) r S' := by
  subst hM
  refine ⟨k1.1, fun p l e R s m args below meth c H locs cells slots Q lsM C Wd hl hc hk1 => ?_⟩
  have hft : ∃ (C0 : String) (T : u_T) (ty : Nat → FieldType), zCls ci C0 T N ty ∧ k < N ∧ ty k = f := by
    obtain ⟨C0, T, ty, hC, hkN, hty, -⟩ := hf
    exact ⟨C0, T, ty, hC, hkN, hty⟩
  obtain ⟨C0, T, ty, hC, hkN, hty⟩ := hft
  refine zput_of (v := .ref (zad G b)) (S1 := (M, L, zupR R0 a k b, K)) C Wd hf hk hinit hd (by rcases hfi with ⟨n, rfl⟩ | ⟨n, rfl⟩ <;> rfl) (by rcases hfi with ⟨n, rfl⟩ | ⟨n, rfl⟩ <;> rfl) rfl (zent_R zupR_ne) ?_ ?_ (fun H1 locs1 W1 => k1.2 p l e R s m args below meth c H1 locs1 cells slots Q lsM C W1 hl hc hk1)
  · rw [zfv_r hC hkN hty hfi]
    simp [zupR, zopt, hb, va_rf]
  · intro j hj
    simp [zfv, zupR, hj]
end MEM
theorem zent_i {G : zG} {S : zS} {a n : Nat} : zent G S a (20, n) = .inl (zGc G 20, n, .inl (S.1 a)) := rfl
theorem zent_b {G : zG} {S : zS} {a n : Nat} : zent G S a (21, n) = .inl (zGc G 21, n, .inl (S.1 a)) := rfl
theorem zent_z {G : zG} {S : zS} {a n : Nat} : zent G S a (22, n) = .inl (zGc G 22, n, .inl (S.1 a)) := rfl
theorem zent_l {G : zG} {S : zS} {a n : Nat} : zent G S a (23, n) = .inl (zGc G 23, n, .inr (.inl (S.2.1 a))) := rfl
theorem zent_q {G : zG} {S : zS} {a n : Nat} : zent G S a (24, n) = .inl (zGc G 24, n, .inr (.inr (.inr (.inr (fun j => zopt G (S.2.2.1 a j)))))) := rfl
theorem zup_at {M : zM} {a k : Nat} {v : Int32} : zup M a k v a = upd (M a) k v := by funext j; simp [zup, upd]
theorem zupL_at {M : zL} {a k : Nat} {v : Int64} : zupL M a k v a = vp_updL (M a) k v := by funext j; simp [zupL, vp_updL]
section ARR
variable {G : zG} {t : zMT} {pc : Nat} {ls : List (Nat × Value)} {st : List Value} {S' : zS} {r : Option Value} {M : zM} {L : zL} {R0 : zR} {K : zK} {a n : Nat} {i : Int32}
theorem zwk {S : zS} {s : State} {H : Heap} {locs : List Loc} (Wd : zW G S s H locs) {tg : Nat} (hk : S.2.2.2[a]? = some (tg, n)) (ht : tg < 90) : 2 ≤ a ∧ (zwl G S)[a - 2]? = some (zad G a, zent G S a (tg, n)) :=
  ⟨Wd.1.1.2.two hk ht, zwl_get (Wd.1.1.2.two hk ht) hk⟩
theorem rn_iald (hk : K[a]? = some (20, n)) (hi : zin i n = true) (hd : decode (zc t) pc = .ok (.iaload, 1)) (k : Rn G t (pc + 1) ls (.int (M a i.toNatClampNeg) :: st) (M, L, R0, K) r S') : Rn G t pc ls (.int i :: .ref a :: st) (M, L, R0, K) r S' :=
  ⟨k.1, fun p l e R s m args below meth c H locs cells slots Q lsM C Wd hl hc hk1 => va_iald (f := M a) C.1 C.2.1 C.2.2.2.2.2.2.2.1.1 Wd.1.2 (a - 2) 0 (zwk Wd hk (by decide)).2 rfl (zin_vp hi) hd (k.2 p l e R s m args below meth c H locs cells slots Q lsM C Wd hl hc hk1)⟩
theorem rn_bald (hk : K[a]? = some (21, n)) (hi : zin i n = true) (hd : decode (zc t) pc = .ok (.baload, 1)) (k : Rn G t (pc + 1) ls (.int (M a i.toNatClampNeg) :: st) (M, L, R0, K) r S') : Rn G t pc ls (.int i :: .ref a :: st) (M, L, R0, K) r S' :=
  ⟨k.1, fun p l e R s m args below meth c H locs cells slots Q lsM C Wd hl hc hk1 => va_bald (f := M a) C.1 C.2.1 C.2.2.2.2.2.2.2.1.1 Wd.1.2 (a - 2) 1 (zwk Wd hk (by decide)).2 rfl (zin_vp hi) hd (k.2 p l e R s m args below meth c H locs cells slots Q lsM C Wd hl hc hk1)⟩
theorem rn_zald (hk : K[a]? = some (22, n)) (hi : zin i n = true) (hd : decode (zc t) pc = .ok (.baload, 1)) (k : Rn G t (pc + 1) ls (.int (M a i.toNatClampNeg) :: st) (M, L, R0, K) r S') : Rn G t pc ls (.int i :: .ref a :: st) (M, L, R0, K) r S' :=
  ⟨k.1, fun p l e R s m args below meth c H locs cells slots Q lsM C Wd hl hc hk1 => va_zald (f := M a) C.1 C.2.1 C.2.2.2.2.2.2.2.1.1 Wd.1.2 (a - 2) 2 (zwk Wd hk (by decide)).2 rfl (zin_vp hi) hd (k.2 p l e R s m args below meth c H locs cells slots Q lsM C Wd hl hc hk1)⟩
theorem rn_lald (hk : K[a]? = some (23, n)) (hi : zin i n = true) (hd : decode (zc t) pc = .ok (.laload, 1)) (k : Rn G t (pc + 1) ls (.long (L a i.toNatClampNeg) :: st) (M, L, R0, K) r S') : Rn G t pc ls (.int i :: .ref a :: st) (M, L, R0, K) r S' :=
  ⟨k.1, fun p l e R s m args below meth c H locs cells slots Q lsM C Wd hl hc hk1 => va_lald (f := L a) C.1 C.2.1 C.2.2.2.2.2.2.2.1.1 Wd.1.2 (a - 2) 3 (zwk Wd hk (by decide)).2 rfl (zin_vp hi) hd (k.2 p l e R s m args below meth c H locs cells slots Q lsM C Wd hl hc hk1)⟩
theorem rn_qald (hk : K[a]? = some (24, n)) (hi : zin i n = true) (hne : R0 a i.toNatClampNeg ≠ 0) (hd : decode (zc t) pc = .ok (.aaload, 1)) (k : Rn G t (pc + 1) ls (.ref (R0 a i.toNatClampNeg) :: st) (M, L, R0, K) r S') : Rn G t pc ls (.int i :: .ref a :: st) (M, L, R0, K) r S' :=
  ⟨k.1, fun p l e R s m args below meth c H locs cells slots Q lsM C Wd hl hc hk1 => va_aldq (f := fun j => zopt G (R0 a j)) (C := RX6) C.1 C.2.1 C.2.2.2.2.2.2.2.1.1 Wd.1.2 (a - 2) 4 (zwk Wd hk (by decide)).2 rfl (zin_vp hi) hd (by
    show W p l e R s m args below meth c H locs cells slots Q (F0 m (pc + 1) lsM (va_rf (zopt G (R0 a i.toNatClampNeg)) :: _))
    unfold zopt
    rw [if_neg hne]
    exact k.2 p l e R s m args below meth c H locs cells slots Q lsM C Wd hl hc hk1)⟩
theorem rn_alen {tg : Nat} {v : Int32} (hk : K[a]? = some (tg, n)) (ht : tg = 20 ∨ tg = 21 ∨ tg = 22 ∨ tg = 23 ∨ tg = 24) (hv : Int32.ofNat n = v) (hd : decode (zc t) pc = .ok (.arraylength, 1)) (k : Rn G t (pc + 1) ls (.int v :: st) (M, L, R0, K) r S') : Rn G t pc ls (.ref a :: st) (M, L, R0, K) r S' :=
  ⟨k.1, fun p l e R s m args below meth c H locs cells slots Q lsM C Wd hl hc hk1 => by
    have hlt : tg < 90 := by rcases ht with h | h | h | h | h <;> subst h <;> decide
    have hat := (zwk Wd hk hlt).2
    have kk := k.2 p l e R s m args below meth c H locs cells slots Q lsM C Wd hl hc hk1
    rcases ht with h | h | h | h | h <;> subst h
    · exact va_alen (x := (n, .inl (M a))) C.1 C.2.1 C.2.2.2.2.2.2.2.1.1 Wd.1.2 (a - 2) 0 hat rfl hv hd kk
    · exact va_alen (x := (n, .inl (M a))) C.1 C.2.1 C.2.2.2.2.2.2.2.1.1 Wd.1.2 (a - 2) 1 hat rfl hv hd kk
    · exact va_alen (x := (n, .inl (M a))) C.1 C.2.1 C.2.2.2.2.2.2.2.1.1 Wd.1.2 (a - 2) 2 hat rfl hv hd kk
    · exact va_alen (x := (n, .inr (.inl (L a)))) C.1 C.2.1 C.2.2.2.2.2.2.2.1.1 Wd.1.2 (a - 2) 3 hat rfl hv hd kk
    · exact va_alen (x := (n, .inr (.inr (.inr (.inr (fun j => zopt G (R0 a j))))))) C.1 C.2.1 C.2.2.2.2.2.2.2.1.1 Wd.1.2 (a - 2) 4 hat rfl hv hd kk⟩
theorem rn_iast {x : Int32} {M1 : zM} (hM : M1 = zup M a i.toNatClampNeg x) (hk : K[a]? = some (20, n)) (hi : zin i n = true) (hd : decode (zc t) pc = .ok (.iastore, 1)) (k : Rn G t (pc + 1) ls st (M1, L, R0, K) r S') : Rn G t pc ls (.int x :: .int i :: .ref a :: st) (M, L, R0, K) r S' := by
  subst hM
  refine ⟨k.1, fun p l e R s m args below meth c H locs cells slots Q lsM C Wd hl hc hk1 => ?_⟩
  obtain ⟨h2, hat⟩ := zwk Wd hk (by decide)
  refine W.iast C.1 C.2.1 (Wd.1.2 (a - 2) _ hat) ((C.2.2.2.2.2.2.2.1.1.2 0 _ rfl).1 n (fun j => .int (M a j))) (fun q => by cases q) (by show ¬ (i < 0 ∨ (arrV _ _ _).slots.size ≤ _); rw [arrV_size]; exact zin_vp hi) rfl rfl hd fun H1 e1 z oq => ?_
  refine k.2 p l e R s m args below meth c H1 _ cells slots Q lsM C ⟨zE_set (S' := (zup M a i.toNatClampNeg x, L, R0, K)) Wd.1 hk h2 rfl (zent_M zup_ne) z (Wd.1.2.set zwl_D hat ?_ oq), Wd.2.put z oq (zwl_D.2 (a - 2) _ hat)⟩ hl hc hk1
  show H1[zad G a]? = some (vp_cell (zGc G 20) (n, .inl (zup M a i.toNatClampNeg x a)))
  rw [e1]
  show some ((vp_cell (zGc G 20) (n, .inl (M a))).setSlot _ _) = _
  rw [vp_cell_i, vp_cell_i, arrV_store, zup_at]
  congr 2
  funext q
  by_cases hq : q = i.toNatClampNeg
  · subst hq
    simp [updV, upd]
  · simp [updV, upd, hq]
theorem rn_bast {x v : Int32} {M1 : zM} (hv : x.toInt8.toInt32 = v) (hM : M1 = zup M a i.toNatClampNeg v) (hk : K[a]? = some (21, n)) (hi : zin i n = true) (hd : decode (zc t) pc = .ok (.bastore, 1)) (k : Rn G t (pc + 1) ls st (M1, L, R0, K) r S') : Rn G t pc ls (.int x :: .int i :: .ref a :: st) (M, L, R0, K) r S' := by
  subst hM
  subst hv
  refine ⟨k.1, fun p l e R s m args below meth c H locs cells slots Q lsM C Wd hl hc hk1 => ?_⟩
  obtain ⟨h2, hat⟩ := zwk Wd hk (by decide)
  refine W.bast C.1 C.2.1 (Wd.1.2 (a - 2) _ hat) ((C.2.2.2.2.2.2.2.1.1.2 1 _ rfl).1 n (fun j => .int (M a j))) (fun q => by cases q) (by show ¬ (i < 0 ∨ (arrV _ _ _).slots.size ≤ _); rw [arrV_size]; exact zin_vp hi) rfl rfl hd fun H1 e1 z oq => ?_
  refine k.2 p l e R s m args below meth c H1 _ cells slots Q lsM C ⟨zE_set (S' := (zup M a i.toNatClampNeg x.toInt8.toInt32, L, R0, K)) Wd.1 hk h2 rfl (zent_M zup_ne) z (Wd.1.2.set zwl_D hat ?_ oq), Wd.2.put z oq (zwl_D.2 (a - 2) _ hat)⟩ hl hc hk1
  show H1[zad G a]? = some (vp_cell (zGc G 21) (n, .inl (zup M a i.toNatClampNeg x.toInt8.toInt32 a)))
  rw [e1]
  show some ((vp_cell (zGc G 21) (n, .inl (M a))).setSlot _ _) = _
  rw [vp_cell_i, vp_cell_i, arrV_store, zup_at]
  congr 2
  funext q
  by_cases hq : q = i.toNatClampNeg
  · subst hq
    simp [updV, upd, narrow_byte]
  · simp [updV, upd, hq]
theorem rn_zast {x : Int32} {M1 : zM} (hv : narrow .boolean (.int x) = .int x) (hM : M1 = zup M a i.toNatClampNeg x) (hk : K[a]? = some (22, n)) (hi : zin i n = true) (hd : decode (zc t) pc = .ok (.bastore, 1)) (k : Rn G t (pc + 1) ls st (M1, L, R0, K) r S') : Rn G t pc ls (.int x :: .int i :: .ref a :: st) (M, L, R0, K) r S' := by
  subst hM
  refine ⟨k.1, fun p l e R s m args below meth c H locs cells slots Q lsM C Wd hl hc hk1 => ?_⟩
  obtain ⟨h2, hat⟩ := zwk Wd hk (by decide)
  refine W.zast C.1 C.2.1 (Wd.1.2 (a - 2) _ hat) ((C.2.2.2.2.2.2.2.1.1.2 2 _ rfl).1 n (fun j => .int (M a j))) (fun q => by cases q) (by show ¬ (i < 0 ∨ (arrV _ _ _).slots.size ≤ _); rw [arrV_size]; exact zin_vp hi) rfl rfl hd fun H1 e1 z oq => ?_
  refine k.2 p l e R s m args below meth c H1 _ cells slots Q lsM C ⟨zE_set (S' := (zup M a i.toNatClampNeg x, L, R0, K)) Wd.1 hk h2 rfl (zent_M zup_ne) z (Wd.1.2.set zwl_D hat ?_ oq), Wd.2.put z oq (zwl_D.2 (a - 2) _ hat)⟩ hl hc hk1
  show H1[zad G a]? = some (vp_cell (zGc G 22) (n, .inl (zup M a i.toNatClampNeg x a)))
  rw [e1]
  show some ((vp_cell (zGc G 22) (n, .inl (M a))).setSlot _ _) = _
  rw [vp_cell_i, vp_cell_i, arrV_store, zup_at]
  congr 2
  funext q
  by_cases hq : q = i.toNatClampNeg
  · subst hq
    simp [updV, upd, hv]
  · simp [updV, upd, hq]
theorem rn_last {x : Int64} {L1 : zL} (hM : L1 = zupL L a i.toNatClampNeg x) (hk : K[a]? = some (23, n)) (hi : zin i n = true) (hd : decode (zc t) pc = .ok (.lastore, 1)) (k : Rn G t (pc + 1) ls st (M, L1, R0, K) r S') : Rn G t pc ls (.long x :: .int i :: .ref a :: st) (M, L, R0, K) r S' := by
  subst hM
  refine ⟨k.1, fun p l e R s m args below meth c H locs cells slots Q lsM C Wd hl hc hk1 => ?_⟩
  obtain ⟨h2, hat⟩ := zwk Wd hk (by decide)
  refine W.last C.1 C.2.1 (Wd.1.2 (a - 2) _ hat) ((C.2.2.2.2.2.2.2.1.1.2 3 _ rfl).1 n (fun j => .long (L a j))) (fun q => by cases q) (by show ¬ (i < 0 ∨ (arrV _ _ _).slots.size ≤ _); rw [arrV_size]; exact zin_vp hi) rfl rfl hd fun H1 e1 z oq => ?_
  refine k.2 p l e R s m args below meth c H1 _ cells slots Q lsM C ⟨zE_set (S' := (M, zupL L a i.toNatClampNeg x, R0, K)) Wd.1 hk h2 rfl (zent_L zupL_ne) z (Wd.1.2.set zwl_D hat ?_ oq), Wd.2.put z oq (zwl_D.2 (a - 2) _ hat)⟩ hl hc hk1
  show H1[zad G a]? = some (vp_cell (zGc G 23) (n, .inr (.inl (zupL L a i.toNatClampNeg x a))))
  rw [e1]
  show some ((vp_cell (zGc G 23) (n, .inr (.inl (L a)))).setSlot _ _) = _
  rw [vp_cell_l, vp_cell_l, arrV_store, zupL_at]
  congr 2
  funext q
  by_cases hq : q = i.toNatClampNeg
  · subst hq
    simp [updV, vp_updL]
  · simp [updV, vp_updL, hq]
theorem rn_qast {b : Nat} {R1 : zR} (hM : R1 = zupR R0 a i.toNatClampNeg b) (hkb : K[b]? = some (6, 8)) (hb0 : b ≠ 0) (hk : K[a]? = some (24, n)) (hi : zin i n = true) (hd : decode (zc t) pc = .ok (.aastore, 1)) (k : Rn G t (pc + 1) ls st (M, L, R1, K) r S') : Rn G t pc ls (.ref b :: .int i :: .ref a :: st) (M, L, R0, K) r S' := by
  subst hM
  refine ⟨k.1, fun p l e R s m args below meth c H locs cells slots Q lsM C Wd hl hc hk1 => ?_⟩
  obtain ⟨h2, hat⟩ := zwk Wd hk (by decide)
  obtain ⟨h2b, hatb⟩ := zwk Wd hkb (by decide)
  rw [zent_obj (by decide)] at hatb
  have hK := C.2.2.2.2.2.2.2.1.1
  obtain ⟨r', hr', cellV, g1, g2, g3, -⟩ := Wd.1.2 (b - 2) _ hatb
  have hcls := (hK.1 6 (RX6, TX6, 8) rfl).2
  obtain ⟨kA, comp, k1, k2, k3, -⟩ := (hK.2 4 _ rfl).2
  have hcomp : comp = (zGD G).1 6 := Option.some.inj (k3.symm.trans hcls.1)
  subst hcomp
  obtain ⟨kC, hkC, -⟩ := hcls.2
  have hin := zin_vp hi
  have hlt : i.toNatClampNeg < n := Nat.not_le.mp fun q => hin (Or.inr q)
  have h0 : ¬ i < 0 := fun q => hin (Or.inl q)
  refine W.aast C.1 C.2.1 (Wd.1.2 (a - 2) _ hat) (fun q h => by cases h) (fun h => by cases h) k1 k2 rfl hkC ⟨h0, by show _ < (arrV _ _ _).slots.size; rw [arrV_size]; exact hlt⟩ g1 (fun q h => by rw [g3] at h; cases h) (by rw [g2]; exact hkC) (by rw [g2]; exact va_assign hcls) rfl rfl hd fun H1 e1 z oq => ?_
  refine k.2 p l e R s m args below meth c H1 _ cells slots Q lsM C ⟨zE_set (S' := (M, L, zupR R0 a i.toNatClampNeg b, K)) Wd.1 hk h2 rfl (zent_R zupR_ne) z (Wd.1.2.set zwl_D hat ?_ oq), Wd.2.put z oq (zwl_D.2 (a - 2) _ hat)⟩ hl hc hk1
  show H1[zad G a]? = some (vp_cell (zGc G 24) (n, .inr (.inr (.inr (.inr (fun j => zopt G (zupR R0 a i.toNatClampNeg b a j)))))))
  rw [e1]
  show some ((vp_cell (zGc G 24) (n, .inr (.inr (.inr (.inr (fun j => zopt G (R0 a j))))))).setSlot _ _) = _
  rw [vp_cell_q, vp_cell_q, arrV_store]
  congr 2
  funext q
  by_cases hq : q = i.toNatClampNeg
  · subst hq
    simp [updV, zupR, zopt, hb0, va_rf]
  · simp [updV, zupR, hq]
end ARR
theorem zsl_app {K : zK} {kd : Nat × Nat} : zsl (K ++ [kd]) = zsl K + kd.2 := by simp [zsl]
/-- a new cell: the next address -/
theorem zE_push {G : zG} {S S1 : zS} {kd : Nat × Nat} {H H1 : Heap} (hE : zE G S H) (hK : S1.2.2.2 = S.2.2.2 ++ [kd]) (he : ∀ b, b < S.2.2.2.length → ∀ k, zent G S1 b k = zent G S b k) (hz : H1.size = H.size + 1) (ho : ∀ q : Nat, q < H.size → H1[q]? = H[q]?)
    (hat : va_at (zGD G) zcl (zad G S.2.2.2.length, zent G S1 S.2.2.2.length kd) H1) : zE G S1 H1 := by
  have h2 := hE.1.2.len
  refine ⟨⟨by rw [hz, hE.1.1, hK, List.length_append, List.length_singleton]; omega, by rw [hK]; exact ⟨by rw [List.getElem?_append_left (by omega)]; exact hE.1.2.1, by rw [List.getElem?_append_left (by omega)]; exact hE.1.2.2⟩⟩, ?_⟩
  rw [← zwl_push h2 hK he]
  refine (hE.2.kept (fun k x hx => ho x.1 ((hE.2 k x hx).lt))).app (fun k x hx => ?_)
  have hk : k < 1 := (List.getElem?_eq_some_iff.mp hx).1
  rw [show k = 0 by omega] at hx
  cases hx
  exact hat
theorem zad_size {G : zG} {S : zS} {H : Heap} (hE : zE G S H) : zad G S.2.2.2.length = H.size := by
  have h2 := hE.1.2.len
  rw [hE.1.1]
  unfold zad
  rw [if_neg (by omega)]
theorem zent_new {G : zG} {M M1 : zM} {L L1 : zL} {R R1 : zR} {K K1 : zK} {a : Nat} (h1 : ∀ b, b < a → M1 b = M b) (h2 : ∀ b, b < a → L1 b = L b) (h3 : ∀ b, b < a → R1 b = R b) : ∀ b, b < a → ∀ k, zent G (M1, L1, R1, K1) b k = zent G (M, L, R, K) b k := by
  intro b hb k
  unfold zent zflds zfv
  simp only
  rw [h1 b hb, h2 b hb, h3 b hb]
theorem zzM_lt {M : zM} {a : Nat} : ∀ b, b < a → zzM M a b = M b := fun b hb => by funext j; simp [zzM, Nat.ne_of_lt hb]
theorem zzL_lt {M : zL} {a : Nat} : ∀ b, b < a → zzL M a b = M b := fun b hb => by funext j; simp [zzL, Nat.ne_of_lt hb]
theorem zzR_lt {M : zR} {a : Nat} : ∀ b, b < a → zzR M a b = M b := fun b hb => by funext j; simp [zzR, Nat.ne_of_lt hb]
theorem va_S.push {A : Nat → Prop} {H0 H H1 : Heap} {locs : List Loc} (hS : va_S A H0 H locs) (hz : H1.size = H.size + 1) (ho : ∀ q : Nat, q < H.size → H1[q]? = H[q]?) : va_S A H0 H1 locs :=
  ⟨Nat.le_trans hS.1 (by omega), fun x h1 h2 => (ho x (Nat.lt_of_lt_of_le h1 hS.1)).trans (hS.2.1 x h1 h2), hS.2.2⟩
section ALLOC
variable {G : zG} {t : zMT} {pc : Nat} {ls : List (Nat × Value)} {st : List Value} {S' : zS} {r : Option Value} {M : zM} {L : zL} {R0 : zR} {K : zK} {a n : Nat} {i : Int32}
/-- a new object -/
theorem rn_new {idx ci N : Nat} {C0 : String} {T : u_T} {ty : Nat → FieldType} (hC : zCls ci C0 T N ty) (hw1 : zIn (.classLink (zo t) idx C0)) (hw2 : zIn (.instantiable C0 N)) (hw3 : zIn (.initialized C0)) (hd : decode (zc t) pc = .ok (.new idx, 3))
    (k : Rn G t (pc + 3) ls (.ref K.length :: st) (zzM M K.length, L, zzR R0 K.length, K ++ [(ci, N)]) r S') : Rn G t pc ls st (M, L, R0, K) r S' := by
  obtain ⟨km1, km2⟩ := k.1
  simp only [List.length_append, List.length_singleton, zsl_app] at km1 km2
  refine ⟨⟨by show K.length ≤ _; omega, by show zsl K ≤ _; omega⟩, fun p l e R s m args below meth c H locs cells slots Q lsM C Wd hl hc hk1 => ?_⟩
  obtain ⟨hc1, hc2⟩ := hc
  have hTB := C.2.2.2.2.2.2.2.1.2.1
  have hKn := C.2.2.2.2.2.2.2.1.1.1 ci _ hC.1
  refine W.newcK C.1 C.2.1 C.2.2.2.2.1 (hTB _ hw1 args) (hTB _ hw2 args) (hTB _ hw3 args) rfl hd (by show cells + 1 ≤ _; simp only at hc1; omega) (by show slots + N ≤ _; simp only at hc2; omega) hKn.2.1 rfl fun H1 kC hkC e1 z1 o1 => ?_
  have hsz := zad_size Wd.1
  show W p l e R s m args below meth c H1 locs (cells + 1) (slots + N) Q (F0 m (pc + 3) lsM (.ref H.size :: _))
  rw [← hsz]
  refine k.2 p l e R s m args below meth c H1 locs (cells + 1) (slots + N) Q lsM C ⟨zE_push (kd := (ci, N)) Wd.1 rfl (zent_new zzM_lt (fun _ _ => rfl) zzR_lt) z1 o1 ?_, Wd.2.push z1 o1⟩ hl ⟨by simp only [List.length_append, List.length_singleton]; simp only at hc1; omega, by simp only [zsl_app]; simp only at hc2; omega⟩ (fun H2 locs2 ls2 pc2 cells2 slots2 g1 g2 g3 g4 => hk1 H2 locs2 ls2 pc2 cells2 slots2 g1 g2 ?_ ?_)
  · rw [hsz, zent_obj hC.2.1]
    refine ⟨_, hC.1, (u_born (s := s) (args := args) (ws := u_ws C0 T N) ty (fun w hw => hTB w (hC.2.2.1 w hw) args) (fun _ h => h) hKn hkC e1 hC.2.2.2.1).to ?_⟩
    intro j hj
    unfold vp_V
    rw [List.getD_eq_getElem?_getD, zflds_at hj]
    simp only [Option.getD_some]
    unfold zfv
    rw [zft_of hC hj]
    have e0 : zzM M K.length K.length j = 0 := by simp [zzM]
    have e1 : zzR R0 K.length K.length j = 0 := by simp [zzR]
    have hok : ty j = .int ∨ ty j = .boolean ∨ (∃ x, ty j = .object x) ∨ ∃ x, ty j = .array x := zfok_of (hC.2.2.2.2.2 j hj)
    rcases hok with h | h | ⟨x, h⟩ | ⟨x, h⟩ <;> rw [h] <;> simp [e0, e1, zopt, va_rf] <;> rfl
  · simp only [List.length_append, List.length_singleton] at g3
    show cells2 + K.length = _
    omega
  · simp only [zsl_app] at g4
    show slots2 + zsl K = _
    omega
/-- a new row of numbers -/
theorem rn_newa {tg : Nat} {at_ : ArrayType} {x : Int32} (hw : zIn (.arrayClass (newarray.typeOf at_))) (hx : x = Int32.ofNat n) (hn : n < 100000) (ht : (tg = 20 ∧ at_ = .int) ∨ (tg = 21 ∧ at_ = .byte) ∨ (tg = 22 ∧ at_ = .boolean) ∨ (tg = 23 ∧ at_ = .long)) (hd : decode (zc t) pc = .ok (.newarray at_, 2))
    (k : Rn G t (pc + 2) ls (.ref K.length :: st) (zzM M K.length, zzL L K.length, R0, K ++ [(tg, n)]) r S') : Rn G t pc ls (.int x :: st) (M, L, R0, K) r S' := by
  obtain ⟨km1, km2⟩ := k.1
  simp only [List.length_append, List.length_singleton, zsl_app] at km1 km2
  refine ⟨⟨by show K.length ≤ _; omega, by show zsl K ≤ _; omega⟩, fun p l e R s m args below meth c H locs cells slots Q lsM C Wd hl hc hk1 => ?_⟩
  obtain ⟨hc1, hc2⟩ := hc
  have hTB := C.2.2.2.2.2.2.2.1.2.1
  have hK := C.2.2.2.2.2.2.2.1.1
  have hnx : x.toNatClampNeg = n := by rw [hx]; exact nI_clamp (n := n) (by omega)
  have hbytes : n * componentBytes (newarray.typeOf at_) ≤ 536870912 := by
    have : componentBytes (newarray.typeOf at_) ≤ 8 := by cases at_ <;> decide
    calc n * componentBytes (newarray.typeOf at_) ≤ n * 8 := Nat.mul_le_mul_left _ this
      _ ≤ 536870912 := by omega
  have hsz := zad_size Wd.1
  refine va_newaK C.1 C.2.1 (hTB _ hw args) (g := F0 m pc lsM (.int x :: _)) rfl hd (n := x) (N := n) rfl (by rw [hx]; exact nI_pos (by omega)) hnx hbytes (by simp only at hc1; omega) (by simp only at hc2; omega) hsz.symm fun H1 cA e1 z1 o1 hAr hNm => ?_
  have z2 : H1.size = H.size + 1 := by rw [z1, hsz]
  have o2 : ∀ q, q < H.size → H1[q]? = H[q]? := fun q hq => o1 q (by rw [hsz]; exact hq)
  refine k.2 p l e R s m args below meth c H1 locs (cells + 1) (slots + n) Q lsM C ⟨zE_push (kd := (tg, n)) Wd.1 rfl (zent_new zzM_lt zzL_lt (fun _ _ => rfl)) z2 o2 ?_, Wd.2.push z2 o2⟩ hl ⟨by simp only [List.length_append, List.length_singleton]; simp only at hc1; omega, by simp only [zsl_app]; simp only at hc2; omega⟩ (fun H2 locs2 ls2 pc2 cells2 slots2 g1 g2 g3 g4 => hk1 H2 locs2 ls2 pc2 cells2 slots2 g1 g2 ?_ ?_)
  · have em : zzM M K.length K.length = fun _ => 0 := by funext j; simp [zzM]
    have el : zzL L K.length K.length = fun _ => 0 := by funext j; simp [zzL]
    rcases ht with ⟨rfl, rfl⟩ | ⟨rfl, rfl⟩ | ⟨rfl, rfl⟩ | ⟨rfl, rfl⟩
    · have hcA : cA = zGc G 20 := Option.some.inj (hNm.symm.trans (hK.2 0 _ rfl).2)
      subst hcA
      show H1[zad G K.length]? = some (vp_cell (zGc G 20) (n, .inl (zzM M K.length K.length)))
      rw [em]
      exact e1
    · have hcA : cA = zGc G 21 := Option.some.inj (hNm.symm.trans (hK.2 1 _ rfl).2)
      subst hcA
      show H1[zad G K.length]? = some (vp_cell (zGc G 21) (n, .inl (zzM M K.length K.length)))
      rw [em]
      exact e1
    · have hcA : cA = zGc G 22 := Option.some.inj (hNm.symm.trans (hK.2 2 _ rfl).2)
      subst hcA
      show H1[zad G K.length]? = some (vp_cell (zGc G 22) (n, .inl (zzM M K.length K.length)))
      rw [em]
      exact e1
    · have hcA : cA = zGc G 23 := Option.some.inj (hNm.symm.trans (hK.2 3 _ rfl).2)
      subst hcA
      show H1[zad G K.length]? = some (vp_cell (zGc G 23) (n, .inr (.inl (zzL L K.length K.length))))
      rw [el]
      exact e1
  · simp only [List.length_append, List.length_singleton] at g3
    show cells2 + K.length = _
    omega
  · simp only [zsl_app] at g4
    show slots2 + zsl K = _
    omega
/-- a new row of rings -/
theorem rn_newq {idx : Nat} {x : Int32} (hw1 : zIn (.classLink (zo t) idx RX6)) (hw2 : zIn (.arrayOver (.object RX6))) (hx : x = Int32.ofNat n) (hn : n < 100000) (hd : decode (zc t) pc = .ok (.anewarray idx, 3))
    (k : Rn G t (pc + 3) ls (.ref K.length :: st) (M, L, zzR R0 K.length, K ++ [(24, n)]) r S') : Rn G t pc ls (.int x :: st) (M, L, R0, K) r S' := by
  obtain ⟨km1, km2⟩ := k.1
  simp only [List.length_append, List.length_singleton, zsl_app] at km1 km2
  refine ⟨⟨by show K.length ≤ _; omega, by show zsl K ≤ _; omega⟩, fun p l e R s m args below meth c H locs cells slots Q lsM C Wd hl hc hk1 => ?_⟩
  obtain ⟨hc1, hc2⟩ := hc
  have hTB := C.2.2.2.2.2.2.2.1.2.1
  have hK := C.2.2.2.2.2.2.2.1.1
  have hnx : x.toNatClampNeg = n := by rw [hx]; exact nI_clamp (n := n) (by omega)
  have hsz := zad_size Wd.1
  refine W.anew (n := x) C.1 C.2.1 C.2.2.2.2.1 (hTB _ hw1 args) (hTB _ hw2 args) rfl hd rfl (by rw [hx]; exact nI_pos (by omega)) (by rw [hnx]; omega) (by simp only at hc1; omega) (by rw [hnx]; simp only at hc2; omega) fun cA kA comp f1 f2 f3 f4 => ?_
  rw [hnx]
  generalize hH1 : H.push ({ cls := cA, slots := Array.replicate n .null, vm := .none } : Cell) = H1
  have z1 : H1.size = H.size + 1 := by rw [← hH1, Array.size_push]
  have e1 : H1[H.size]? = some (arrV cA n (fun _ => .null)) := by rw [← hH1, Array.getElem?_push_size, ← arrV_new]
  have o1 : ∀ q : Nat, q < H.size → H1[q]? = H[q]? := fun q hq => by rw [← hH1, Array.getElem?_push, if_neg (Nat.ne_of_lt hq)]
  show W p l e R s m args below meth c H1 locs (cells + 1) (slots + n) Q (F0 m (pc + 3) lsM (.ref H.size :: _))
  rw [← hsz]
  refine k.2 p l e R s m args below meth c H1 locs (cells + 1) (slots + n) Q lsM C ⟨zE_push (kd := (24, n)) Wd.1 rfl (zent_new (fun _ _ => rfl) (fun _ _ => rfl) zzR_lt) z1 o1 ?_, Wd.2.push z1 o1⟩ hl ⟨by simp only [List.length_append, List.length_singleton]; simp only at hc1; omega, by simp only [zsl_app]; simp only at hc2; omega⟩ (fun H2 locs2 ls2 pc2 cells2 slots2 g1 g2 g3 g4 => hk1 H2 locs2 ls2 pc2 cells2 slots2 g1 g2 ?_ ?_)
  · obtain ⟨kA2, comp2, q1, q2, q3, q4⟩ := (hK.2 4 _ rfl).2
    have hcA : cA = zGc G 24 := Option.some.inj (f1.symm.trans q4)
    subst hcA
    show H1[zad G K.length]? = some (vp_cell (zGc G 24) (n, .inr (.inr (.inr (.inr (fun j => zopt G (zzR R0 K.length K.length j)))))))
    rw [vp_cell_q, hsz, e1]
    simp [zzR, zopt, va_rf]
  · simp only [List.length_append, List.length_singleton] at g3
    show cells2 + K.length = _
    omega
  · simp only [zsl_app] at g4
    show slots2 + zsl K = _
    omega
end ALLOC
def zLnk (own : String) (idx : Nat) (y : MethodName) (nest : Bool) : Prop := (nest = false ∧ zIn (.methodLink own idx y)) ∨ (nest = true ∧ ∃ host, zIn (.methodLinkNest own idx y host))
def zMth (t : zMT) (n : Nat) : Prop := zIn (.code (zy t) (zc t) (zn t) (zr t)) ∧ zIn (.initialized (zy t).cls) ∧ ((zy t).cls ≠ "java/lang/invoke/MethodHandle" ∧ (zy t).cls ≠ "java/lang/invoke/VarHandle") ∧ (parseMethodDescriptor (zy t).desc).map (fun d => d.parameters.length) = some n
def zMthV (t : zMT) (n : Nat) : Prop := zMth t n ∧ zIn (.instanceMethod (zy t)) ∧ zIn (.selects (zy t).cls (zy t) (zy t))
def zMthS (t : zMT) (n : Nat) : Prop := zMth t n ∧ zIn (.static (zy t))
def zMthI (t : zMT) (n : Nat) : Prop := zMth t n ∧ (zy t).name = "<init>" ∧ zIn (.instanceMethod (zy t)) ∧ zr t = none
theorem zMth.par {t : zMT} {n : Nat} (h : zMth t n) : ∀ sig, parseMethodDescriptor (zy t).desc = some sig → n = sig.parameters.length := fun sig e => by
  have h2 := h.2.2.2
  rw [e] at h2
  exact (Option.some.inj h2).symm
section CALLS
variable {G : zG} {t t2 : zMT} {pc : Nat} {ls : List (Nat × Value)} {st rest As : List Value} {S S1 S' : zS} {r r1 : Option Value} {a n idx : Nat} {nest : Bool}
theorem zcat {rest : List Value} (h : (rest.map fun v => v.category).sum ≤ 8) : ((rest.map (ztv G)).map fun v => v.category).sum ≤ 8 := by
  rw [List.map_map]
  have : ((fun v : Value => v.category) ∘ ztv G) = fun v => v.category := by funext v; exact ztv_cat v
  rw [this]
  exact h
/-- what stands behind every call -/
theorem zcall_go {p : Program} {l : Launch} {e : Env} {R : Room} {s : State} {m : MethodId} {args : Array Value} {below : List Frame} {meth : Method} {c : Code} {H : Heap} {locs : List Loc} {cells slots : Nat} {Q : State → Prop} {lsM : Array Slot} {st0 : List Value} {av : Array Value}
    (hmono : zmono S S1) (k : Rn G t (pc + 3) ls (r1.toList ++ rest) S1 r S') (C : zCtx G t p R s m meth c) (Wd : zW G S s H locs) (hl : lv_has lsM (zn t) (zq G ls)) (hc : cells + S'.2.2.2.length ≤ R.cells + S.2.2.2.length ∧ slots + zsl S'.2.2.2 ≤ R.slots + zsl S.2.2.2)
    (hk : ∀ (H1 : Heap) (locs1 : List Loc) (ls1 : Array Slot) (pc1 cells1 slots1 : Nat), zRetOK t pc1 r → zW G S' s H1 locs1 → cells1 + S.2.2.2.length = cells + S'.2.2.2.length → slots1 + zsl S.2.2.2 = slots + zsl S'.2.2.2 → W p l e R s m args below meth c H1 locs1 cells1 slots1 Q (F0 m pc1 ls1 (r.toList.map (ztv G))))
    (hr : (cells + (S1.2.2.2.length - S.2.2.2.length) ≤ R.cells ∧ slots + (zsl S1.2.2.2 - zsl S.2.2.2) ≤ R.slots) → va_Run p l e R s m args below meth c H locs cells slots (S1.2.2.2.length - S.2.2.2.length) (zsl S1.2.2.2 - zsl S.2.2.2) (F0 m pc lsM st0) (rest.map (ztv G)) (zQ G S1 r1 av) (zA G)) :
    W p l e R s m args below meth c H locs cells slots Q (F0 m pc lsM st0) := by
  obtain ⟨m1, m2⟩ := hmono
  obtain ⟨n1, n2⟩ := k.1
  obtain ⟨c1, c2⟩ := hc
  refine z_call (hr ⟨by omega, by omega⟩) Wd fun H1 locs1 W1 => ?_
  have kk := k.2 p l e R s m args below meth c H1 locs1 (cells + (S1.2.2.2.length - S.2.2.2.length)) (slots + (zsl S1.2.2.2 - zsl S.2.2.2)) Q lsM C W1 hl ⟨by omega, by omega⟩ (fun H2 locs2 ls2 pc2 cells2 slots2 g1 g2 g3 g4 => hk H2 locs2 ls2 pc2 cells2 slots2 g1 g2 (by omega) (by omega))
  rw [List.map_append] at kk
  exact kk
theorem rn_callV {ci N : Nat} {C0 : String} {T : u_T} (hl : zLnk (zo t) idx (zy t2) nest) (hm : zMthV t2 n) (hroom : zfr t2 + 1 ≤ zfr t ∧ 8 + (zn t2 + 11) + zlo t2 ≤ zlo t) (hcl : zcl[ci]? = some (C0, T, N)) (hC0 : (zy t2).cls = C0) (hci : ci < 20) (hka : S.2.2.2[a]? = some (ci, N)) (hn : As.length = n) (hst : st = As.reverse ++ .ref a :: rest) (hcat : (rest.map fun v => v.category).sum ≤ 8)
    (hd : decode (zc t) pc = .ok (.invokevirtual idx, 3)) (h : Rm G t2 (.ref a :: As) S r1 S1) (k : Rn G t (pc + 3) ls (r1.toList ++ rest) S1 r S') : Rn G t pc ls st S r S' := by
  subst hst
  subst hC0
  refine ⟨h.1.tr k.1, fun p l e R s m args below meth c H locs cells slots Q lsM C Wd hlv hc hk => ?_⟩
  have hTB := C.2.2.2.2.2.2.2.1.2.1
  have hat := (zwk Wd hka (Nat.lt_of_lt_of_le hci (by decide))).2
  rw [zent_obj hci] at hat
  have hfr := C.2.2.2.2.2.2.2.2
  have hstk : (As.reverse ++ Value.ref a :: rest).map (ztv G) = (As.map (ztv G)).reverse ++ .ref (zad G a) :: rest.map (ztv G) := by rw [List.map_append, List.map_reverse]; rfl
  rw [hstk]
  have hS : CallFix p m c (zc t) (zn t) s args [] (zo t) := ⟨C.1, C.2.1, C.2.2.1, C.2.2.2.2.1, fun w hw => by cases hw⟩
  have hpre : PreV s H (zy t2).cls (zad G a) (va_Pc ((Value.ref a :: As).map (ztv G)) (zB G S)) (As.map (ztv G)) := ⟨zblind, va_recv C.2.2.2.2.2.2.2.1.1 Wd.1.2 hcl hat, fun U hU hW => ⟨rfl, zB_call C Wd hU hW⟩⟩
  have hws : ∀ w ∈ [Cond.code (zy t2) (zc t2) (zn t2) (zr t2)], ∀ (a' : Array Value) (U : State), s.WarmedH U.vm → w.before a' U = true := fun w hw a' U hW => by
    rw [List.mem_singleton.mp hw]
    exact (zTB.warm hW hTB) _ hm.1.1 a'
  refine zcall_go (av := (Value.ref (zad G a) :: As.map (ztv G)).toArray) h.1 k C Wd hlv hc hk fun hf => ?_
  rcases hl with ⟨-, hl⟩ | ⟨-, host, hl⟩
  · exact va_runV hS (h.2 l) (C := (zy t2).cls) (n := n) (bytes := zc t2) (maxL := zn t2) (ret := zr t2) ⟨⟨rfl, rfl, Nat.le_trans hroom.1 hfr.1, Nat.le_trans hroom.2 hfr.2, hws, List.mem_singleton.mpr rfl, hTB _ hm.1.1 args, hTB _ hm.1.2.1 args, hm.1.2.2.1, hm.1.par, hTB _ hl args⟩, hTB _ hm.2.1 args, hTB _ hm.2.2 args⟩ hpre rfl (by rw [List.length_map]; exact hn) hlv.1 rfl (lv_room (zcat hcat)) hd hf
  · exact va_runVN hS (h.2 l) (C := (zy t2).cls) (n := n) (bytes := zc t2) (maxL := zn t2) (ret := zr t2) (host := host) ⟨⟨⟨rfl, rfl, Nat.le_trans hroom.1 hfr.1, Nat.le_trans hroom.2 hfr.2, hws, List.mem_singleton.mpr rfl⟩, hTB _ hm.1.1 args, hTB _ hm.1.2.1 args, hm.1.2.2.1, hm.1.par, hTB _ hl args⟩, hTB _ hm.2.1 args, hTB _ hm.2.2 args⟩ hpre rfl (by rw [List.length_map]; exact hn) hlv.1 rfl (lv_room (zcat hcat)) hd hf
theorem rn_callS (hl : zLnk (zo t) idx (zy t2) nest) (hm : zMthS t2 n) (hroom : zfr t2 + 1 ≤ zfr t ∧ 8 + (zn t2 + 11) + zlo t2 ≤ zlo t) (hn : As.length = n) (hst : st = As.reverse ++ rest) (hcat : (rest.map fun v => v.category).sum ≤ 8)
    (hd : decode (zc t) pc = .ok (.invokestatic idx, 3)) (h : Rm G t2 As S r1 S1) (k : Rn G t (pc + 3) ls (r1.toList ++ rest) S1 r S') : Rn G t pc ls st S r S' := by
  subst hst
  refine ⟨h.1.tr k.1, fun p l e R s m args below meth c H locs cells slots Q lsM C Wd hlv hc hk => ?_⟩
  have hTB := C.2.2.2.2.2.2.2.1.2.1
  have hfr := C.2.2.2.2.2.2.2.2
  have hstk : (As.reverse ++ rest).map (ztv G) = (As.map (ztv G)).reverse ++ rest.map (ztv G) := by rw [List.map_append, List.map_reverse]
  rw [hstk]
  have hS : CallFix p m c (zc t) (zn t) s args [] (zo t) := ⟨C.1, C.2.1, C.2.2.1, C.2.2.2.2.1, fun w hw => by cases hw⟩
  have hpre : PreS s H (va_Pc (As.map (ztv G)) (zB G S)) (As.map (ztv G)) := ⟨zblind, fun U hU hW => ⟨rfl, zB_call C Wd hU hW⟩⟩
  have hws : ∀ w ∈ [Cond.code (zy t2) (zc t2) (zn t2) (zr t2)], ∀ (a' : Array Value) (U : State), s.WarmedH U.vm → w.before a' U = true := fun w hw a' U hW => by
    rw [List.mem_singleton.mp hw]
    exact (zTB.warm hW hTB) _ hm.1.1 a'
  refine zcall_go (av := (As.map (ztv G)).toArray) h.1 k C Wd hlv hc hk fun hf => ?_
  rcases hl with ⟨-, hl⟩ | ⟨-, host, hl⟩
  · exact va_runS hS (h.2 l) (n := n) (bytes := zc t2) (maxL := zn t2) (ret := zr t2) ⟨⟨rfl, rfl, Nat.le_trans hroom.1 hfr.1, Nat.le_trans hroom.2 hfr.2, hws, List.mem_singleton.mpr rfl, hTB _ hm.1.1 args, hTB _ hm.1.2.1 args, hm.1.2.2.1, hm.1.par, hTB _ hl args⟩, hTB _ hm.2 args⟩ hpre rfl (by rw [List.length_map]; exact hn) hlv.1 rfl (lv_room (zcat hcat)) hd hf
  · exact va_runSN hS (h.2 l) (n := n) (bytes := zc t2) (maxL := zn t2) (ret := zr t2) (host := host) ⟨⟨⟨rfl, rfl, Nat.le_trans hroom.1 hfr.1, Nat.le_trans hroom.2 hfr.2, hws, List.mem_singleton.mpr rfl⟩, hTB _ hm.1.1 args, hTB _ hm.1.2.1 args, hm.1.2.2.1, hm.1.par, hTB _ hl args⟩, hTB _ hm.2 args, trivial⟩ hpre rfl (by rw [List.length_map]; exact hn) hlv.1 rfl (lv_room (zcat hcat)) hd hf
theorem rn_callI (hl : zLnk (zo t) idx (zy t2) nest) (hm : zMthI t2 n) (hroom : zfr t2 + 1 ≤ zfr t ∧ 8 + (zn t2 + 11) + zlo t2 ≤ zlo t) (hn : As.length = n) (hst : st = As.reverse ++ .ref a :: rest) (hcat : (rest.map fun v => v.category).sum ≤ 8)
    (hd : decode (zc t) pc = .ok (.invokespecial idx, 3)) (h : Rm G t2 (.ref a :: As) S none S1) (k : Rn G t (pc + 3) ls rest S1 r S') : Rn G t pc ls st S r S' := by
  subst hst
  refine ⟨h.1.tr k.1, fun p l e R s m args below meth c H locs cells slots Q lsM C Wd hlv hc hk => ?_⟩
  have hTB := C.2.2.2.2.2.2.2.1.2.1
  have hfr := C.2.2.2.2.2.2.2.2
  have hstk : (As.reverse ++ Value.ref a :: rest).map (ztv G) = (As.map (ztv G)).reverse ++ .ref (zad G a) :: rest.map (ztv G) := by rw [List.map_append, List.map_reverse]; rfl
  rw [hstk]
  have hS : CallFix p m c (zc t) (zn t) s args [] (zo t) := ⟨C.1, C.2.1, C.2.2.1, C.2.2.2.2.1, fun w hw => by cases hw⟩
  have hpre : PreS s H (va_Pc ((Value.ref a :: As).map (ztv G)) (zB G S)) (.ref (zad G a) :: As.map (ztv G)) := ⟨zblind, fun U hU hW => ⟨rfl, zB_call C Wd hU hW⟩⟩
  have hcode := hm.1.1
  have hM := h.2 l
  rw [hm.2.2.2] at hcode hM
  have hws : ∀ w ∈ [Cond.code (zy t2) (zc t2) (zn t2) none], ∀ (a' : Array Value) (U : State), s.WarmedH U.vm → w.before a' U = true := fun w hw a' U hW => by
    rw [List.mem_singleton.mp hw]
    exact (zTB.warm hW hTB) _ hcode a'
  refine zcall_go (r1 := none) (av := (Value.ref (zad G a) :: As.map (ztv G)).toArray) h.1 k C Wd hlv hc hk fun hf => ?_
  rcases hl with ⟨-, hl⟩ | ⟨-, host, hl⟩
  · exact va_runI hS hM (n := n) (bytes := zc t2) (maxL := zn t2) ⟨⟨rfl, rfl, Nat.le_trans hroom.1 hfr.1, Nat.le_trans hroom.2 hfr.2, hws, List.mem_singleton.mpr rfl, hTB _ hcode args, hTB _ hm.1.2.1 args, hm.1.2.2.1, hm.1.par, hTB _ hl args⟩, hm.2.1, hTB _ hm.2.2.1 args⟩ hpre rfl (by rw [List.length_map]; exact hn) hlv.1 rfl (lv_room (zcat hcat)) hd hf
  · exact va_runIN hS hM (n := n) (bytes := zc t2) (maxL := zn t2) (host := host) ⟨⟨⟨rfl, rfl, Nat.le_trans hroom.1 hfr.1, Nat.le_trans hroom.2 hfr.2, hws, List.mem_singleton.mpr rfl⟩, hTB _ hcode args, hTB _ hm.1.2.1 args, hm.1.2.2.1, hm.1.par, hTB _ hl args⟩, hm.2.1, hTB _ hm.2.2.1 args⟩ hpre rfl (by rw [List.length_map]; exact hn) hlv.1 rfl (lv_room (zcat hcat)) hd hf
theorem rn_objInit (hl : zIn (.methodLink (zo t) idx Lib.objectInit)) (hm : zIn (.instanceMethod Lib.objectInit)) (hm2 : zIn (.code Lib.objectInit ⟨#[0xb1]⟩ 1 none)) (hroom : 1 ≤ zfr t ∧ 20 ≤ zlo t) (hcat : (rest.map fun v => v.category).sum ≤ 8) (hd : decode (zc t) pc = .ok (.invokespecial idx, 3))
    (k : Rn G t (pc + 3) ls rest S r S') : Rn G t pc ls (.ref a :: rest) S r S' :=
  ⟨k.1, fun p l e R s m args below meth c H locs cells slots Q lsM C Wd hlv hc hk => by
    have hTB := C.2.2.2.2.2.2.2.1.2.1
    have hfr := C.2.2.2.2.2.2.2.2
    have hcat2 := zcat (G := G) hcat
    refine W.objInit (g := F0 m pc lsM (.ref (zad G a) :: rest.map (ztv G))) C.1 C.2.1 C.2.2.2.2.1 (hTB _ hl args) (hTB _ hm args) (hTB _ hm2 args) rfl (by rw [C.2.2.1]; exact hlv.1) rfl hd (Nat.le_trans hroom.1 hfr.1) (by show 2 * 0 + _ + 12 ≤ _; omega) ?_
    exact k.2 p l e R s m args below meth c H locs cells slots Q lsM C Wd hlv hc hk⟩
theorem rn_max {x y : Int32} (hl : zIn (.methodLink (zo t) idx Lib.Math.max.name)) (h2 : zIn (.static Lib.Math.max.name)) (h3 : zIn (.initialized "java/lang/Math")) (h4 : zIn (.code Lib.Math.max.name Lib.Math.max.code 2 (some .int))) (hroom : 1 ≤ zfr t ∧ 21 ≤ zlo t) (hcat : (rest.map fun v => v.category).sum ≤ 8) (hd : decode (zc t) pc = .ok (.invokestatic idx, 3))
    (k : Rn G t (pc + 3) ls (.int (if x < y then y else x) :: rest) S r S') : Rn G t pc ls (.int y :: .int x :: rest) S r S' :=
  ⟨k.1, fun p l e R s m args below meth c H locs cells slots Q lsM C Wd hlv hc hk => by
    have hTB := C.2.2.2.2.2.2.2.1.2.1
    have hfr := C.2.2.2.2.2.2.2.2
    have hcat2 := zcat (G := G) hcat
    obtain ⟨m1, m2⟩ := k.1
    exact va_mmax C.1 C.2.1 (by rw [C.2.2.1, hlv.1]) C.2.2.2.2.1 (hTB _ hl args) (hTB _ h2 args) (hTB _ h3 args) (hTB _ h4 args) (Nat.le_trans hroom.1 hfr.1) (by omega) (by omega) (by omega) hd (k.2 p l e R s m args below meth c H locs cells slots Q lsM C Wd hlv hc hk)⟩
theorem rn_min {x y : Int32} (hl : zIn (.methodLink (zo t) idx Lib.Math.min.name)) (h2 : zIn (.static Lib.Math.min.name)) (h3 : zIn (.initialized "java/lang/Math")) (h4 : zIn (.code Lib.Math.min.name Lib.Math.min.code 2 (some .int))) (hroom : 1 ≤ zfr t ∧ 21 ≤ zlo t) (hcat : (rest.map fun v => v.category).sum ≤ 8) (hd : decode (zc t) pc = .ok (.invokestatic idx, 3))
    (k : Rn G t (pc + 3) ls (.int (if y < x then y else x) :: rest) S r S') : Rn G t pc ls (.int y :: .int x :: rest) S r S' :=
  ⟨k.1, fun p l e R s m args below meth c H locs cells slots Q lsM C Wd hlv hc hk => by
    have hTB := C.2.2.2.2.2.2.2.1.2.1
    have hfr := C.2.2.2.2.2.2.2.2
    have hcat2 := zcat (G := G) hcat
    obtain ⟨m1, m2⟩ := k.1
    exact va_mmin C.1 C.2.1 (by rw [C.2.2.1, hlv.1]) C.2.2.2.2.1 (hTB _ hl args) (hTB _ h2 args) (hTB _ h3 args) (hTB _ h4 args) (Nat.le_trans hroom.1 hfr.1) (by omega) (by omega) (by omega) hd (k.2 p l e R s m args below meth c H locs cells slots Q lsM C Wd hlv hc hk)⟩
theorem rn_abs {x : Int32} (hl : zIn (.methodLink (zo t) idx Lib.Math.abs.name)) (h2 : zIn (.static Lib.Math.abs.name)) (h3 : zIn (.initialized "java/lang/Math")) (h4 : zIn (.code Lib.Math.abs.name Lib.Math.abs.code 1 (some .int))) (hroom : 1 ≤ zfr t ∧ 21 ≤ zlo t) (hcat : (rest.map fun v => v.category).sum ≤ 8) (hd : decode (zc t) pc = .ok (.invokestatic idx, 3))
    (k : Rn G t (pc + 3) ls (.int (if 0 ≤ x then x else 0 - x) :: rest) S r S') : Rn G t pc ls (.int x :: rest) S r S' :=
  ⟨k.1, fun p l e R s m args below meth c H locs cells slots Q lsM C Wd hlv hc hk => by
    have hTB := C.2.2.2.2.2.2.2.1.2.1
    have hfr := C.2.2.2.2.2.2.2.2
    have hcat2 := zcat (G := G) hcat
    obtain ⟨m1, m2⟩ := k.1
    exact va_mabs C.1 C.2.1 (by rw [C.2.2.1, hlv.1]) C.2.2.2.2.1 (hTB _ hl args) (hTB _ h2 args) (hTB _ h3 args) (hTB _ h4 args) (Nat.le_trans hroom.1 hfr.1) (by omega) (by omega) (by omega) hd (k.2 p l e R s m args below meth c H locs cells slots Q lsM C Wd hlv hc hk)⟩
/-- the script -/
theorem rn_sld {i : Int32} (hi : zin i (zGn G) = true) (hd : decode (zc t) pc = .ok (.iaload, 1)) (k : Rn G t (pc + 1) ls (.int (zGx G i.toNatClampNeg) :: rest) S r S') : Rn G t pc ls (.int i :: .ref 1 :: rest) S r S' :=
  ⟨k.1, fun p l e R s m args below meth c H locs cells slots Q lsM C Wd hlv hc hk => by
    obtain ⟨hK, hTB, hX, hb, hs, hz⟩ := C.2.2.2.2.2.2.2.1
    exact va_sld C.1 C.2.1 hX (Nat.lt_of_lt_of_le hb hz) (Nat.not_le.mpr hb) Wd.2 (zin_vp hi) hd (k.2 p l e R s m args below meth c H locs cells slots Q lsM C Wd hlv hc hk)⟩
theorem rn_slen (hd : decode (zc t) pc = .ok (.arraylength, 1)) (k : Rn G t (pc + 1) ls (.int (Int32.ofNat (zGn G)) :: rest) S r S') : Rn G t pc ls (.ref 1 :: rest) S r S' :=
  ⟨k.1, fun p l e R s m args below meth c H locs cells slots Q lsM C Wd hlv hc hk => by
    obtain ⟨hK, hTB, hX, hb, hs, hz⟩ := C.2.2.2.2.2.2.2.1
    exact va_slen C.1 C.2.1 hX (Nat.lt_of_lt_of_le hb hz) (Nat.not_le.mpr hb) Wd.2 hd (k.2 p l e R s m args below meth c H locs cells slots Q lsM C Wd hlv hc hk)⟩
end CALLS
/-! the combinators of the decompiled functions -/
def zck {α : Type} (b : Bool) (x : Option α) : Option α := if b = true then x else none
def zbd {α β : Type} (x : Option α) (f : α → Option β) : Option β := match x with
  | some a => f a
  | none => none
def zbd2 {α γ β : Type} (x : Option (α × γ)) (f : α → γ → Option β) : Option β := match x with
  | some (a, b) => f a b
  | none => none
def zbd3 {α γ δ β : Type} (x : Option (α × γ × δ)) (f : α → γ → δ → Option β) : Option β := match x with
  | some (a, b, c) => f a b c
  | none => none
def zbd4 {α γ δ ε β : Type} (x : Option (α × γ × δ × ε)) (f : α → γ → δ → ε → Option β) : Option β := match x with
  | some (a, b, c, d) => f a b c d
  | none => none
def zlt {α β : Type} (a : α) (f : α → β) : β := f a
def zkk {α : Type} (K : zK) (b : Nat) (kd : Nat × Nat) (x : Option α) : Option α := if b ≠ 0 ∧ K[b]? = some kd then x else none
def zloop {V E : Type} : Nat → (V → Option (V ⊕ E)) → V → Option E
  | 0, _, _ => none
  | n + 1, b, v => match b v with
    | none => none
    | some (.inl v1) => zloop n b v1
    | some (.inr e) => some e
abbrev zN : Nat := 1000000
theorem zck_e {α : Type} {b : Bool} {x : Option α} {r : α} (h : zck b x = some r) : b = true ∧ x = some r := by
  unfold zck at h
  by_cases hb : b = true
  · rw [if_pos hb] at h
    exact ⟨hb, h⟩
  · rw [if_neg hb] at h
    cases h
theorem zkk_e {α : Type} {K : zK} {b : Nat} {kd : Nat × Nat} {x : Option α} {r : α} (h : zkk K b kd x = some r) : b ≠ 0 ∧ K[b]? = some kd ∧ x = some r := by
  unfold zkk at h
  by_cases hb : b ≠ 0 ∧ K[b]? = some kd
  · rw [if_pos hb] at h
    exact ⟨hb.1, hb.2, h⟩
  · rw [if_neg hb] at h
    cases h
theorem zbd_e {α β : Type} {x : Option α} {f : α → Option β} {r : β} (h : zbd x f = some r) : ∃ a, x = some a ∧ f a = some r := by
  cases x with
  | none => cases h
  | some a => exact ⟨a, rfl, h⟩
theorem zbd2_e {α γ β : Type} {x : Option (α × γ)} {f : α → γ → Option β} {r : β} (h : zbd2 x f = some r) : ∃ a b, x = some (a, b) ∧ f a b = some r := by
  cases x with
  | none => cases h
  | some a => exact ⟨a.1, a.2, rfl, h⟩
theorem zbd3_e {α γ δ β : Type} {x : Option (α × γ × δ)} {f : α → γ → δ → Option β} {r : β} (h : zbd3 x f = some r) : ∃ a b c, x = some (a, b, c) ∧ f a b c = some r := by
  cases x with
  | none => cases h
  | some a => exact ⟨a.1, a.2.1, a.2.2, rfl, h⟩
theorem zbd4_e {α γ δ ε β : Type} {x : Option (α × γ × δ × ε)} {f : α → γ → δ → ε → Option β} {r : β} (h : zbd4 x f = some r) : ∃ a b c d, x = some (a, b, c, d) ∧ f a b c d = some r := by
  cases x with
  | none => cases h
  | some a => exact ⟨a.1, a.2.1, a.2.2.1, a.2.2.2, rfl, h⟩
theorem zlt_e {α β : Type} {a : α} {f : α → Option β} {r : β} (h : zlt a f = some r) : ∃ y, y = a ∧ f y = some r := ⟨a, rfl, h⟩
theorem zif_e {α : Type} {c : Prop} {inst : Decidable c} {a b : Option α} {r : α} (h : (if c then a else b) = some r) : (c ∧ a = some r) ∨ (¬ c ∧ b = some r) := by
  by_cases hc : c
  · rw [if_pos hc] at h
    exact Or.inl ⟨hc, h⟩
  · rw [if_neg hc] at h
    exact Or.inr ⟨hc, h⟩
theorem zloop_ok {V E : Type} {P : V → Prop} {Q : E → Prop} {b : V → Option (V ⊕ E)} (hb : ∀ v x, b v = some x → Sum.elim P Q x → P v) : ∀ (n : Nat) (v : V) (e : E), zloop n b v = some e → Q e → P v := by
  intro n
  induction n with
  | zero => intro v e h; cases h
  | succ n ih =>
    intro v e h hq
    unfold zloop at h
    cases hx : b v with
    | none => rw [hx] at h; cases h
    | some x =>
      rw [hx] at h
      cases x with
      | inl v1 => exact hb v _ hx (ih v1 e h hq)
      | inr e1 =>
        cases h
        exact hb v _ hx hq
def zbool (x : Int32) : Bool := decide (x = 0) || decide (x = 1)
theorem zbool_e {x : Int32} (h : zbool x = true) : x = 0 ∨ x = 1 := by
  unfold zbool at h
  rw [Bool.or_eq_true, decide_eq_true_eq, decide_eq_true_eq] at h
  exact h
theorem zbool_n {x : Int32} (h : zbool x = true) : narrow .boolean (.int x) = .int x := by
  rcases zbool_e h with rfl | rfl <;> rfl
def znz (x : Int32) : Bool := !decide (x = 0)
theorem znz_e {x : Int32} (h : znz x = true) : ¬ x = 0 := by
  unfold znz at h
  intro q
  rw [q] at h
  exact absurd h (by decide)
abbrev ztn (i : Int32) : Nat := i.toNatClampNeg
theorem zto {x v : Int32} {n : Int} (h : ¬ x = v) (hv : v.toInt = n) : x.toInt ≠ n := fun e => h (Int32.toInt_inj.mp (e.trans hv.symm))
theorem zAll_of (ws : List Cond) (ps : List Nat) (hp : ws = ps.filterMap (fun i => lw_tbl[i]?)) (h : ws.all zwOK = true) : ∀ w ∈ ws, zIn w := by
  intro w hw
  refine ⟨?_, List.all_eq_true.mp h w hw⟩
  rw [hp] at hw
  obtain ⟨i, -, hi⟩ := List.mem_filterMap.mp hw
  exact List.mem_of_getElem? hi
theorem zIn_of {w : Cond} (i : Nat) (h : lw_tbl[i]? = some w) (hw : zwOK w = true) : zIn w := ⟨List.mem_of_getElem? h, hw⟩
section CALL3
variable {G : zG} {t t2 : zMT} {pc : Nat} {ls : List (Nat × Value)} {st rest As : List Value} {S S1 S' : zS} {r : Option Value} {a n idx ci N : Nat} {nest : Bool} {C0 : String} {T : u_T}
theorem rn_callVv (hl : zLnk (zo t) idx (zy t2) nest) (hm : zMthV t2 n) (hroom : zfr t2 + 1 ≤ zfr t ∧ 8 + (zn t2 + 11) + zlo t2 ≤ zlo t) (hcl : zcl[ci]? = some (C0, T, N)) (hC0 : (zy t2).cls = C0) (hci : ci < 20) (hka : S.2.2.2[a]? = some (ci, N)) (hn : As.length = n) (hst : st = As.reverse ++ .ref a :: rest) (hcat : (rest.map fun v => v.category).sum ≤ 8)
    (hd : decode (zc t) pc = .ok (.invokevirtual idx, 3)) (h : Rm G t2 (.ref a :: As) S none S1) (k : Rn G t (pc + 3) ls rest S1 r S') : Rn G t pc ls st S r S' := rn_callV hl hm hroom hcl hC0 hci hka hn hst hcat hd h k
theorem rn_callVi {x : Int32} (hl : zLnk (zo t) idx (zy t2) nest) (hm : zMthV t2 n) (hroom : zfr t2 + 1 ≤ zfr t ∧ 8 + (zn t2 + 11) + zlo t2 ≤ zlo t) (hcl : zcl[ci]? = some (C0, T, N)) (hC0 : (zy t2).cls = C0) (hci : ci < 20) (hka : S.2.2.2[a]? = some (ci, N)) (hn : As.length = n) (hst : st = As.reverse ++ .ref a :: rest) (hcat : (rest.map fun v => v.category).sum ≤ 8)
    (hd : decode (zc t) pc = .ok (.invokevirtual idx, 3)) (h : Rm G t2 (.ref a :: As) S (some (.int x)) S1) (k : Rn G t (pc + 3) ls (.int x :: rest) S1 r S') : Rn G t pc ls st S r S' := rn_callV hl hm hroom hcl hC0 hci hka hn hst hcat hd h k
theorem rn_callVl {x : Int64} (hl : zLnk (zo t) idx (zy t2) nest) (hm : zMthV t2 n) (hroom : zfr t2 + 1 ≤ zfr t ∧ 8 + (zn t2 + 11) + zlo t2 ≤ zlo t) (hcl : zcl[ci]? = some (C0, T, N)) (hC0 : (zy t2).cls = C0) (hci : ci < 20) (hka : S.2.2.2[a]? = some (ci, N)) (hn : As.length = n) (hst : st = As.reverse ++ .ref a :: rest) (hcat : (rest.map fun v => v.category).sum ≤ 8)
    (hd : decode (zc t) pc = .ok (.invokevirtual idx, 3)) (h : Rm G t2 (.ref a :: As) S (some (.long x)) S1) (k : Rn G t (pc + 3) ls (.long x :: rest) S1 r S') : Rn G t pc ls st S r S' := rn_callV hl hm hroom hcl hC0 hci hka hn hst hcat hd h k
theorem rn_callSi {x : Int32} (hl : zLnk (zo t) idx (zy t2) nest) (hm : zMthS t2 n) (hroom : zfr t2 + 1 ≤ zfr t ∧ 8 + (zn t2 + 11) + zlo t2 ≤ zlo t) (hn : As.length = n) (hst : st = As.reverse ++ rest) (hcat : (rest.map fun v => v.category).sum ≤ 8)
    (hd : decode (zc t) pc = .ok (.invokestatic idx, 3)) (h : Rm G t2 As S (some (.int x)) S1) (k : Rn G t (pc + 3) ls (.int x :: rest) S1 r S') : Rn G t pc ls st S r S' := rn_callS hl hm hroom hn hst hcat hd h k
theorem rn_callSl {x : Int64} (hl : zLnk (zo t) idx (zy t2) nest) (hm : zMthS t2 n) (hroom : zfr t2 + 1 ≤ zfr t ∧ 8 + (zn t2 + 11) + zlo t2 ≤ zlo t) (hn : As.length = n) (hst : st = As.reverse ++ rest) (hcat : (rest.map fun v => v.category).sum ≤ 8)
    (hd : decode (zc t) pc = .ok (.invokestatic idx, 3)) (h : Rm G t2 As S (some (.long x)) S1) (k : Rn G t (pc + 3) ls (.long x :: rest) S1 r S') : Rn G t pc ls st S r S' := rn_callS hl hm hroom hn hst hcat hd h k
end CALL3
/-- rows with what is new named -/
theorem rn_newE {G : zG} {t : zMT} {pc : Nat} {ls : List (Nat × Value)} {st : List Value} {S' : zS} {r : Option Value} {M M1 : zM} {L : zL} {R0 R1 : zR} {K K1 : zK} {a1 : Nat} {idx ci N : Nat} {C0 : String} {T : u_T} {ty : Nat → FieldType} (ha : a1 = K.length) (hM : M1 = zzM M a1) (hR : R1 = zzR R0 a1) (hK : K1 = K ++ [(ci, N)]) (hC : zCls ci C0 T N ty) (hw1 : zIn (.classLink (zo t) idx C0)) (hw2 : zIn (.instantiable C0 N)) (hw3 : zIn (.initialized C0)) (hd : decode (zc t) pc = .ok (.new idx, 3))
    (k : Rn G t (pc + 3) ls (.ref a1 :: st) (M1, L, R1, K1) r S') : Rn G t pc ls st (M, L, R0, K) r S' := by
  subst ha; subst hM; subst hR; subst hK
  exact rn_new hC hw1 hw2 hw3 hd k
theorem rn_newaE {G : zG} {t : zMT} {pc : Nat} {ls : List (Nat × Value)} {st : List Value} {S' : zS} {r : Option Value} {M M1 : zM} {L L1 : zL} {R0 : zR} {K K1 : zK} {a1 n : Nat} {tg : Nat} {at_ : ArrayType} {x : Int32} (ha : a1 = K.length) (hM : M1 = zzM M a1) (hL : L1 = zzL L a1) (hK : K1 = K ++ [(tg, n)]) (hw : zIn (.arrayClass (newarray.typeOf at_))) (hx : x = Int32.ofNat n) (hn : n < 100000) (ht : (tg = 20 ∧ at_ = .int) ∨ (tg = 21 ∧ at_ = .byte) ∨ (tg = 22 ∧ at_ = .boolean) ∨ (tg = 23 ∧ at_ = .long)) (hd : decode (zc t) pc = .ok (.newarray at_, 2))
    (k : Rn G t (pc + 2) ls (.ref a1 :: st) (M1, L1, R0, K1) r S') : Rn G t pc ls (.int x :: st) (M, L, R0, K) r S' := by
  subst ha; subst hM; subst hL; subst hK
  exact rn_newa hw hx hn ht hd k
theorem rn_newqE {G : zG} {t : zMT} {pc : Nat} {ls : List (Nat × Value)} {st : List Value} {S' : zS} {r : Option Value} {M : zM} {L : zL} {R0 R1 : zR} {K K1 : zK} {a1 n : Nat} {idx : Nat} {x : Int32} (ha : a1 = K.length) (hR : R1 = zzR R0 a1) (hK : K1 = K ++ [(24, n)]) (hw1 : zIn (.classLink (zo t) idx RX6)) (hw2 : zIn (.arrayOver (.object RX6))) (hx : x = Int32.ofNat n) (hn : n < 100000) (hd : decode (zc t) pc = .ok (.anewarray idx, 3))
    (k : Rn G t (pc + 3) ls (.ref a1 :: st) (M, L, R1, K1) r S') : Rn G t pc ls (.int x :: st) (M, L, R0, K) r S' := by
  subst ha; subst hR; subst hK
  exact rn_newq hw1 hw2 hx hn hd k

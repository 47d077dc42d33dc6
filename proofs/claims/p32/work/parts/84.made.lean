/-! CONSTRUCTORS run: what is made, in its order -/
set_option maxRecDepth 20000 in
def KF : List (Nat × Nat) := [(90, 0), (91, 0), (11, 11), (8, 2), (21, 2000), (5, 10), (9, 6), (20, 402), (20, 402), (23, 402), (23, 20), (23, 10), (20, 21), (6, 8), (20, 10), (20, 10), (20, 10), (23, 10), (2, 5), (24, 30), (24, 3), (22, 3), (6, 8), (20, 10), (20, 10), (20, 10), (23, 10), (6, 8), (20, 10), (20, 10), (20, 10), (23, 10), (6, 8), (20, 10), (20, 10), (20, 10), (23, 10), (6, 8), (20, 10), (20, 10), (20, 10), (23, 10), (6, 8), (20, 10), (20, 10), (20, 10), (23, 10), (6, 8), (20, 10), (20, 10), (20, 10), (23, 10), (6, 8), (20, 10), (20, 10), (20, 10), (23, 10), (6, 8), (20, 10), (20, 10), (20, 10), (23, 10), (6, 8), (20, 10), (20, 10), (20, 10), (23, 10), (6, 8), (20, 10), (20, 10), (20, 10), (23, 10), (6, 8), (20, 10), (20, 10), (20, 10), (23, 10), (6, 8), (20, 10), (20, 10), (20, 10), (23, 10), (6, 8), (20, 10), (20, 10), (20, 10), (23, 10), (6, 8), (20, 10), (20, 10), (20, 10), (23, 10), (6, 8), (20, 10), (20, 10), (20, 10), (23, 10), (6, 8), (20, 10), (20, 10), (20, 10), (23, 10), (6, 8), (20, 10), (20, 10), (20, 10), (23, 10), (6, 8), (20, 10), (20, 10), (20, 10), (23, 10), (6, 8), (20, 10), (20, 10), (20, 10), (23, 10), (6, 8), (20, 10), (20, 10), (20, 10), (23, 10), (6, 8), (20, 10), (20, 10), (20, 10), (23, 10), (6, 8), (20, 10), (20, 10), (20, 10), (23, 10), (6, 8), (20, 10), (20, 10), (20, 10), (23, 10), (6, 8), (20, 10), (20, 10), (20, 10), (23, 10), (6, 8), (20, 10), (20, 10), (20, 10), (23, 10), (6, 8), (20, 10), (20, 10), (20, 10), (23, 10), (6, 8), (20, 10), (20, 10), (20, 10), (23, 10), (6, 8), (20, 10), (20, 10), (20, 10), (23, 10), (6, 8), (20, 10), (20, 10), (20, 10), (23, 10), (6, 8), (20, 10), (20, 10), (20, 10), (23, 10), (6, 8), (20, 10), (20, 10), (20, 10), (23, 10), (6, 8), (20, 10), (20, 10), (20, 10), (23, 10), (6, 8), (20, 10), (20, 10), (20, 10), (23, 10), (1, 2), (6, 8), (20, 10), (20, 10), (20, 10), (23, 10), (20, 3311), (0, 4), (6, 8), (20, 10), (20, 10), (20, 10), (23, 10), (4, 2), (6, 8), (20, 10), (20, 10), (20, 10), (23, 10), (20, 2048), (10, 11), (20, 20), (20, 20), (20, 10), (20, 10), (20, 10), (6, 8), (20, 10), (20, 10), (20, 10), (23, 10), (7, 11), (3, 5), (20, 400), (20, 400), (20, 16), (3, 5), (20, 400), (20, 400), (20, 16), (20, 10), (20, 7), (20, 10), (7, 11), (3, 5), (20, 400), (20, 400), (20, 16), (3, 5), (20, 400), (20, 400), (20, 16), (20, 10), (20, 7), (20, 10), (12, 61), (21, 2000), (21, 2000), (20, 403), (20, 403), (20, 403), (23, 403), (23, 20), (23, 10), (20, 2), (20, 20), (22, 2), (22, 2), (20, 2), (20, 2), (20, 2), (20, 4), (20, 4), (22, 260), (20, 260), (20, 260), (20, 260), (20, 260), (20, 840), (20, 840), (20, 64), (20, 7), (20, 400), (20, 60), (20, 60), (20, 10), (20, 1800), (20, 6321), (20, 2560), (20, 20), (20, 20), (20, 10), (20, 10), (20, 10), (22, 3), (20, 180)]
set_option maxRecDepth 20000 in
theorem KF_len : KF.length = 283 := by decide +kernel
theorem kf_2 : KF[2]? = some (11, 11) := by decide +kernel
theorem kf_3 : KF[3]? = some (8, 2) := by decide +kernel
theorem kf_4 : KF[4]? = some (21, 2000) := by decide +kernel
theorem kf_5 : KF[5]? = some (5, 10) := by decide +kernel
theorem kf_6 : KF[6]? = some (9, 6) := by decide +kernel
theorem kf_7 : KF[7]? = some (20, 402) := by decide +kernel
theorem kf_8 : KF[8]? = some (20, 402) := by decide +kernel
theorem kf_9 : KF[9]? = some (23, 402) := by decide +kernel
theorem kf_10 : KF[10]? = some (23, 20) := by decide +kernel
theorem kf_11 : KF[11]? = some (23, 10) := by decide +kernel
theorem kf_12 : KF[12]? = some (20, 21) := by decide +kernel
theorem kf_13 : KF[13]? = some (6, 8) := by decide +kernel
theorem kf_14 : KF[14]? = some (20, 10) := by decide +kernel
theorem kf_15 : KF[15]? = some (20, 10) := by decide +kernel
theorem kf_16 : KF[16]? = some (20, 10) := by decide +kernel
theorem kf_17 : KF[17]? = some (23, 10) := by decide +kernel
theorem kf_18 : KF[18]? = some (2, 5) := by decide +kernel
theorem kf_19 : KF[19]? = some (24, 30) := by decide +kernel
theorem kf_20 : KF[20]? = some (24, 3) := by decide +kernel
theorem kf_21 : KF[21]? = some (22, 3) := by decide +kernel
theorem kf_187 : KF[187]? = some (1, 2) := by decide +kernel
theorem kf_188 : KF[188]? = some (6, 8) := by decide +kernel
theorem kf_189 : KF[189]? = some (20, 10) := by decide +kernel
theorem kf_190 : KF[190]? = some (20, 10) := by decide +kernel
theorem kf_191 : KF[191]? = some (20, 10) := by decide +kernel
theorem kf_192 : KF[192]? = some (23, 10) := by decide +kernel
theorem kf_193 : KF[193]? = some (20, 3311) := by decide +kernel
theorem kf_194 : KF[194]? = some (0, 4) := by decide +kernel
theorem kf_195 : KF[195]? = some (6, 8) := by decide +kernel
theorem kf_196 : KF[196]? = some (20, 10) := by decide +kernel
theorem kf_197 : KF[197]? = some (20, 10) := by decide +kernel
theorem kf_198 : KF[198]? = some (20, 10) := by decide +kernel
theorem kf_199 : KF[199]? = some (23, 10) := by decide +kernel
theorem kf_200 : KF[200]? = some (4, 2) := by decide +kernel
theorem kf_201 : KF[201]? = some (6, 8) := by decide +kernel
theorem kf_202 : KF[202]? = some (20, 10) := by decide +kernel
theorem kf_203 : KF[203]? = some (20, 10) := by decide +kernel
theorem kf_204 : KF[204]? = some (20, 10) := by decide +kernel
theorem kf_205 : KF[205]? = some (23, 10) := by decide +kernel
theorem kf_206 : KF[206]? = some (20, 2048) := by decide +kernel
theorem kf_207 : KF[207]? = some (10, 11) := by decide +kernel
theorem kf_208 : KF[208]? = some (20, 20) := by decide +kernel
theorem kf_209 : KF[209]? = some (20, 20) := by decide +kernel
theorem kf_210 : KF[210]? = some (20, 10) := by decide +kernel
theorem kf_211 : KF[211]? = some (20, 10) := by decide +kernel
theorem kf_212 : KF[212]? = some (20, 10) := by decide +kernel
theorem kf_213 : KF[213]? = some (6, 8) := by decide +kernel
theorem kf_214 : KF[214]? = some (20, 10) := by decide +kernel
theorem kf_215 : KF[215]? = some (20, 10) := by decide +kernel
theorem kf_216 : KF[216]? = some (20, 10) := by decide +kernel
theorem kf_217 : KF[217]? = some (23, 10) := by decide +kernel
theorem kf_218 : KF[218]? = some (7, 11) := by decide +kernel
theorem kf_219 : KF[219]? = some (3, 5) := by decide +kernel
theorem kf_220 : KF[220]? = some (20, 400) := by decide +kernel
theorem kf_221 : KF[221]? = some (20, 400) := by decide +kernel
theorem kf_222 : KF[222]? = some (20, 16) := by decide +kernel
theorem kf_223 : KF[223]? = some (3, 5) := by decide +kernel
theorem kf_224 : KF[224]? = some (20, 400) := by decide +kernel
theorem kf_225 : KF[225]? = some (20, 400) := by decide +kernel
theorem kf_226 : KF[226]? = some (20, 16) := by decide +kernel
theorem kf_227 : KF[227]? = some (20, 10) := by decide +kernel
theorem kf_228 : KF[228]? = some (20, 7) := by decide +kernel
theorem kf_229 : KF[229]? = some (20, 10) := by decide +kernel
theorem kf_230 : KF[230]? = some (7, 11) := by decide +kernel
theorem kf_231 : KF[231]? = some (3, 5) := by decide +kernel
theorem kf_232 : KF[232]? = some (20, 400) := by decide +kernel
theorem kf_233 : KF[233]? = some (20, 400) := by decide +kernel
theorem kf_234 : KF[234]? = some (20, 16) := by decide +kernel
theorem kf_235 : KF[235]? = some (3, 5) := by decide +kernel
theorem kf_236 : KF[236]? = some (20, 400) := by decide +kernel
theorem kf_237 : KF[237]? = some (20, 400) := by decide +kernel
theorem kf_238 : KF[238]? = some (20, 16) := by decide +kernel
theorem kf_239 : KF[239]? = some (20, 10) := by decide +kernel
theorem kf_240 : KF[240]? = some (20, 7) := by decide +kernel
theorem kf_241 : KF[241]? = some (20, 10) := by decide +kernel
theorem kf_242 : KF[242]? = some (12, 61) := by decide +kernel
theorem kf_243 : KF[243]? = some (21, 2000) := by decide +kernel
theorem kf_244 : KF[244]? = some (21, 2000) := by decide +kernel
theorem kf_245 : KF[245]? = some (20, 403) := by decide +kernel
theorem kf_246 : KF[246]? = some (20, 403) := by decide +kernel
theorem kf_247 : KF[247]? = some (20, 403) := by decide +kernel
theorem kf_248 : KF[248]? = some (23, 403) := by decide +kernel
theorem kf_249 : KF[249]? = some (23, 20) := by decide +kernel
theorem kf_250 : KF[250]? = some (23, 10) := by decide +kernel
theorem kf_251 : KF[251]? = some (20, 2) := by decide +kernel
theorem kf_252 : KF[252]? = some (20, 20) := by decide +kernel
theorem kf_253 : KF[253]? = some (22, 2) := by decide +kernel
theorem kf_254 : KF[254]? = some (22, 2) := by decide +kernel
theorem kf_255 : KF[255]? = some (20, 2) := by decide +kernel
theorem kf_256 : KF[256]? = some (20, 2) := by decide +kernel
theorem kf_257 : KF[257]? = some (20, 2) := by decide +kernel
theorem kf_258 : KF[258]? = some (20, 4) := by decide +kernel
theorem kf_259 : KF[259]? = some (20, 4) := by decide +kernel
theorem kf_260 : KF[260]? = some (22, 260) := by decide +kernel
theorem kf_261 : KF[261]? = some (20, 260) := by decide +kernel
theorem kf_262 : KF[262]? = some (20, 260) := by decide +kernel
theorem kf_263 : KF[263]? = some (20, 260) := by decide +kernel
theorem kf_264 : KF[264]? = some (20, 260) := by decide +kernel
theorem kf_265 : KF[265]? = some (20, 840) := by decide +kernel
theorem kf_266 : KF[266]? = some (20, 840) := by decide +kernel
theorem kf_267 : KF[267]? = some (20, 64) := by decide +kernel
theorem kf_268 : KF[268]? = some (20, 7) := by decide +kernel
theorem kf_269 : KF[269]? = some (20, 400) := by decide +kernel
theorem kf_270 : KF[270]? = some (20, 60) := by decide +kernel
theorem kf_271 : KF[271]? = some (20, 60) := by decide +kernel
theorem kf_272 : KF[272]? = some (20, 10) := by decide +kernel
theorem kf_273 : KF[273]? = some (20, 1800) := by decide +kernel
theorem kf_274 : KF[274]? = some (20, 6321) := by decide +kernel
theorem kf_275 : KF[275]? = some (20, 2560) := by decide +kernel
theorem kf_276 : KF[276]? = some (20, 20) := by decide +kernel
theorem kf_277 : KF[277]? = some (20, 20) := by decide +kernel
theorem kf_278 : KF[278]? = some (20, 10) := by decide +kernel
theorem kf_279 : KF[279]? = some (20, 10) := by decide +kernel
theorem kf_280 : KF[280]? = some (20, 10) := by decide +kernel
theorem kf_281 : KF[281]? = some (22, 3) := by decide +kernel
theorem kf_282 : KF[282]? = some (20, 180) := by decide +kernel
theorem kf_p : ∀ j, j < 33 → KF[22 + 5 * j]? = some (6, 8) ∧ KF[22 + 5 * j + 1]? = some (20, 10) ∧ KF[22 + 5 * j + 1 + 1]? = some (20, 10) ∧ KF[22 + 5 * j + 1 + 2]? = some (20, 10) ∧ KF[22 + 5 * j + 1 + 3]? = some (23, 10) := by decide +kernel
abbrev zAs : Type := List (Nat × Nat × Nat)
def zRl : zAs → zR
  | [] => fun _ _ => 0
  | (a, k, v) :: l => zupR (zRl l) a k v
def zC (n : Nat) (l : zAs) (M : zM) (L : zL) : Prop := 0 < n ∧ n ≤ 283 ∧ (∀ q, q ∈ l → q.1 < n) ∧ (∀ a j, n ≤ a → M a j = 0) ∧ ∀ a j, n ≤ a → L a j = 0
theorem zzM_id {M : zM} {n : Nat} (h : ∀ j, M n j = 0) : zzM M n = M := by
  funext b j
  unfold zzM
  by_cases e : b = n
  · rw [if_pos e, e, h]
  · rw [if_neg e]
theorem zzL_id {M : zL} {n : Nat} (h : ∀ j, M n j = 0) : zzL M n = M := by
  funext b j
  unfold zzL
  by_cases e : b = n
  · rw [if_pos e, e, h]
  · rw [if_neg e]
theorem zzR_id {M : zR} {n : Nat} (h : ∀ j, M n j = 0) : zzR M n = M := by
  funext b j
  unfold zzR
  by_cases e : b = n
  · rw [if_pos e, e, h]
  · rw [if_neg e]
theorem zRl_c {a k v : Nat} {l : zAs} {b j : Nat} (h : ¬ (b = a ∧ j = k)) : zRl ((a, k, v) :: l) b j = zRl l b j := by
  show zupR (zRl l) a k v b j = _
  unfold zupR
  by_cases e : b = a
  · rw [if_pos e, if_neg (fun z => h ⟨e, z⟩)]
  · rw [if_neg e]
theorem zRl_0 : ∀ {l : zAs} {n a k : Nat}, (∀ q, q ∈ l → q.1 < n) → n ≤ a → zRl l a k = 0
  | [], _, _, _, _, _ => rfl
  | (b, j, v) :: l, n, a, k, h, ha => by
    have h1 : b < n := h (b, j, v) (List.mem_cons_self ..)
    rw [zRl_c (by omega)]
    exact zRl_0 (fun q hq => h q (List.mem_cons_of_mem _ hq)) ha
theorem KF_tk {n : Nat} {kd : Nat × Nat} (hx : KF[n]? = some kd) : KF.take n ++ [kd] = KF.take (n + 1) := by
  rw [List.take_succ, hx]
  rfl
theorem KF_ln {n : Nat} (h : n ≤ 283) : (KF.take n).length = n := by
  rw [List.length_take, KF_len]
  omega
theorem KF_lt {n : Nat} {kd : Nat × Nat} (hx : KF[n]? = some kd) : n < 283 := by
  have := (List.getElem?_eq_some_iff.mp hx).1
  rw [KF_len] at this
  exact this
theorem KF_at {n a : Nat} {kd : Nat × Nat} (ha : a < n) (hk : KF[a]? = some kd) : (KF.take n)[a]? = some kd := by
  rw [List.getElem?_take, if_pos ha]
  exact hk
theorem zkk_t {α : Type} {K : zK} {b : Nat} {kd : Nat × Nat} {x : Option α} (h0 : b ≠ 0) (hk : K[b]? = some kd) : zkk K b kd x = x := if_pos ⟨h0, hk⟩
section STEPS
variable {β : Type} {l : zAs} {M : zM} {L : zL} {n n1 tg len a0 k b : Nat} {Q : β → Prop}
theorem zC.cons (g : zC n l M L) (ha : a0 < n) : zC n ((a0, k, b) :: l) M L := ⟨g.1, g.2.1, fun q hq => by
  rcases List.mem_cons.1 hq with e | e
  · rw [e]
    exact ha
  · exact g.2.2.1 q e, g.2.2.2⟩
theorem zC.one {kd : Nat × Nat} (g : zC n l M L) (hx : KF[n]? = some kd) (h1 : n + 1 = n1) : zC n1 l M L := by
  subst h1
  exact ⟨Nat.succ_pos n, KF_lt hx, fun q hq => Nat.lt_succ_of_lt (g.2.2.1 q hq), fun a j ha => g.2.2.2.1 a j (by omega), fun a j ha => g.2.2.2.2 a j (by omega)⟩
theorem zC.up (g : zC n l M L) (ha : a0 < n) {v : Int32} : zC n l (zup M a0 k v) L := ⟨g.1, g.2.1, g.2.2.1, fun a j h => by
  rw [zup_o (by omega)]
  exact g.2.2.2.1 a j h, g.2.2.2.2⟩
theorem zC.upL (g : zC n l M L) (ha : a0 < n) {v : Int64} : zC n l M (zupL L a0 k v) := ⟨g.1, g.2.1, g.2.2.1, g.2.2.2.1, fun a j h => by
  unfold zupL
  rw [if_neg (by omega)]
  exact g.2.2.2.2 a j h⟩
theorem zT_kk {kd : Nat × Nat} {x : Option β} (h0 : b ≠ 0) (hb : b < n) (hk : KF[b]? = some kd) (h : zT x Q) : zT (zkk (KF.take n) b kd x) Q := by
  rw [zkk_t h0 (KF_at hb hk)]
  exact h
theorem zT_bd4 {α γ δ ε : Type} {x : Option (α × γ × δ × ε)} {f : α → γ → δ → ε → Option β} (h : zT x (fun p => zT (f p.1 p.2.1 p.2.2.1 p.2.2.2) Q)) : zT (zbd4 x f) Q := by
  obtain ⟨⟨a, b, c, d⟩, rfl, hq⟩ := h
  exact hq
theorem zT_nz {x : Option β} (h0 : b ≠ 0) (h : zT x Q) : zT (zck (!decide (b = 0)) x) Q := zT_ck (by simp [h0]) h
/-- a new array; a new array of references; a new object; a reference put -/
theorem zT_na {f : Nat → zM → zL → zK → zR → Option β} (g : zC n l M L) (hx : KF[n]? = some (tg, len)) (ha : a0 < n1) (h1 : n + 1 = n1) (h : zC n1 ((a0, k, n) :: l) M L → zT (f n M L (KF.take n1) (zRl ((a0, k, n) :: l))) Q) : zT (zlt (KF.take n).length fun a1 => zlt (zzM M a1) fun M2 => zlt (zzL L a1) fun L3 => zlt (KF.take n ++ [(tg, len)]) fun K4 => zlt (zupR (zRl l) a0 k a1) fun R5 => zck (!decide (a1 = 0)) (f a1 M2 L3 K4 R5)) Q := by
  have g1 := (g.one hx h1).cons (a0 := a0) (k := k) (b := n) ha
  subst h1
  dsimp only [zlt]
  rw [KF_ln g.2.1, zzM_id (fun j => g.2.2.2.1 n j (Nat.le_refl _)), zzL_id (fun j => g.2.2.2.2 n j (Nat.le_refl _)), KF_tk hx]
  exact zT_nz (Nat.ne_of_gt g.1) (h g1)
theorem zT_nq {f : Nat → zK → zR → Option β} (g : zC n l M L) (hx : KF[n]? = some (24, len)) (ha : a0 < n1) (h1 : n + 1 = n1) (h : zC n1 ((a0, k, n) :: l) M L → zT (f n (KF.take n1) (zRl ((a0, k, n) :: l))) Q) : zT (zlt (KF.take n).length fun a1 => zlt (zzR (zRl l) a1) fun R2 => zlt (KF.take n ++ [(24, len)]) fun K4 => zlt (zupR R2 a0 k a1) fun R5 => zck (!decide (a1 = 0)) (f a1 K4 R5)) Q := by
  have g1 := (g.one hx h1).cons (a0 := a0) (k := k) (b := n) ha
  subst h1
  dsimp only [zlt]
  rw [KF_ln g.2.1, zzR_id (fun j => zRl_0 g.2.2.1 (Nat.le_refl _)), KF_tk hx]
  exact zT_nz (Nat.ne_of_gt g.1) (h g1)
theorem zT_no {f : Nat → zM → zR → zK → Option β} (g : zC n l M L) (hx : KF[n]? = some (tg, len)) (h1 : n + 1 = n1) (h : zC n1 l M L → zT (f n M (zRl l) (KF.take n1)) Q) : zT (zlt (KF.take n).length fun a1 => zlt (zzM M a1) fun M2 => zlt (zzR (zRl l) a1) fun R3 => zlt (KF.take n ++ [(tg, len)]) fun K4 => f a1 M2 R3 K4) Q := by
  have g1 := g.one hx h1
  subst h1
  dsimp only [zlt]
  rw [KF_ln g.2.1, zzM_id (fun j => g.2.2.2.1 n j (Nat.le_refl _)), zzR_id (fun j => zRl_0 g.2.2.1 (Nat.le_refl _)), KF_tk hx]
  exact h g1
theorem zT_pr {f : zR → Option β} (g : zC n l M L) (h0 : b ≠ 0) (ha : a0 < n) (h : zC n ((a0, k, b) :: l) M L → zT (f (zRl ((a0, k, b) :: l))) Q) : zT (zlt (zupR (zRl l) a0 k b) fun R => zck (!decide (b = 0)) (f R)) Q := zT_lt (zT_nz h0 (h (g.cons ha)))
end STEPS
def r6 (a n : Nat) (l : zAs) : zAs := (a, 3, n + 3) :: (a, 2, n + 2) :: (a, 1, n + 1) :: (a, 0, n) :: l
theorem r6_o {a n b j : Nat} {l : zAs} (h : b ≠ a) : zRl (r6 a n l) b j = zRl l b j := by
  unfold r6
  rw [zRl_c (by omega), zRl_c (by omega), zRl_c (by omega), zRl_c (by omega)]
section RUN
variable {l : zAs} {M : zM} {L : zL} {n n4 a0 q : Nat}
theorem c_X6 (g : zC n l M L) (h0 : a0 ≠ 0) (ha : a0 < n) (hk : KF[a0]? = some (6, 8)) (e0 : KF[n]? = some (20, 10)) (e1 : KF[n + 1]? = some (20, 10)) (e2 : KF[n + 2]? = some (20, 10)) (e3 : KF[n + 3]? = some (23, 10)) (h4 : n + 4 = n4) : zT (g_X6_init (KF.take n) (zRl l) M L a0) (fun p => p = (KF.take n4, zRl (r6 a0 n l), M, L) ∧ zC n4 (r6 a0 n l) M L) := by
  unfold g_X6_init
  refine zT_kk h0 ha hk ?_
  refine zT_na g e0 (by omega) rfl fun g => ?_
  refine zT_na g e1 (by omega) rfl fun g => ?_
  refine zT_na g e2 (by omega) rfl fun g => ?_
  refine zT_na g e3 (by omega) rfl fun g => ?_
  subst h4
  exact zT_some ⟨rfl, g⟩
def r3 (a n : Nat) (l : zAs) : zAs := (a, 2, n + 2) :: (a, 1, n + 1) :: (a, 0, n) :: l
theorem c_X3 (g : zC n l M L) (h0 : a0 ≠ 0) (ha : a0 < n) (hk : KF[a0]? = some (3, 5)) (e0 : KF[n]? = some (20, 400)) (e1 : KF[n + 1]? = some (20, 400)) (e2 : KF[n + 2]? = some (20, 16)) (h4 : n + 3 = n4) : zT (g_X3_init (KF.take n) (zRl l) M L a0) (fun p => p = (KF.take n4, zRl (r3 a0 n l), M, L) ∧ zC n4 (r3 a0 n l) M L) := by
  unfold g_X3_init
  refine zT_kk h0 ha hk ?_
  refine zT_na g e0 (by omega) rfl fun g => ?_
  refine zT_na g e1 (by omega) rfl fun g => ?_
  refine zT_na g e2 (by omega) rfl fun g => ?_
  subst h4
  exact zT_some ⟨rfl, g⟩
def lX8 (l : zAs) : zAs := (3, 0, 4) :: l
theorem c_X8 (g : zC 4 l M L) : zT (g_X8_init (KF.take 4) (zRl l) M L 3) (fun p => p = (KF.take 5, zRl (lX8 l), M, L) ∧ zC 5 (lX8 l) M L) := by
  unfold g_X8_init
  refine zT_kk (by decide) (by decide) kf_3 ?_
  refine zT_na g kf_4 (by decide) (n1 := 5) rfl fun g => ?_
  exact zT_some ⟨rfl, g⟩
def lX1 (l : zAs) : zAs := (187, 1, 193) :: (187, 0, 188) :: r6 188 189 l
theorem c_X1 (g : zC 188 l M L) : zT (g_X1_init (KF.take 188) (zRl l) M L 187) (fun p => p = (KF.take 194, zRl (lX1 l), M, L) ∧ zC 194 (lX1 l) M L) := by
  unfold g_X1_init
  refine zT_kk (by decide) (by decide) kf_187 ?_
  refine zT_no g kf_188 (n1 := 189) rfl fun g => ?_
  refine zT_bd4 (zT_w (c_X6 g (by decide) (by decide) kf_188 kf_189 kf_190 kf_191 kf_192 (n4 := 193) rfl) ?_)
  rintro _ ⟨rfl, g⟩
  dsimp only
  refine zT_kk (by decide) (by decide) kf_187 ?_
  refine zT_kk (by decide) (by decide) kf_188 ?_
  refine zT_kk (by decide) (by decide) kf_187 ?_
  refine zT_pr g (by decide) (by decide) fun g => ?_
  refine zT_na g kf_193 (by decide) (n1 := 194) rfl fun g => ?_
  exact zT_some ⟨rfl, g⟩
def lX0 (l : zAs) : zAs := (194, 0, 195) :: r6 195 196 l
theorem c_X0 (g : zC 195 l M L) : zT (g_X0_init (KF.take 195) (zRl l) M L 194) (fun p => p = (KF.take 200, zRl (lX0 l), M, L) ∧ zC 200 (lX0 l) M L) := by
  unfold g_X0_init
  refine zT_kk (by decide) (by decide) kf_194 ?_
  refine zT_no g kf_195 (n1 := 196) rfl fun g => ?_
  refine zT_bd4 (zT_w (c_X6 g (by decide) (by decide) kf_195 kf_196 kf_197 kf_198 kf_199 (n4 := 200) rfl) ?_)
  rintro _ ⟨rfl, g⟩
  dsimp only
  refine zT_kk (by decide) (by decide) kf_194 ?_
  refine zT_kk (by decide) (by decide) kf_195 ?_
  refine zT_kk (by decide) (by decide) kf_194 ?_
  refine zT_pr g (by decide) (by decide) fun g => ?_
  exact zT_some ⟨rfl, g⟩
def lX4 (l : zAs) : zAs := (200, 1, 206) :: (200, 0, 201) :: r6 201 202 l
theorem c_X4 (g : zC 201 l M L) : zT (g_X4_init (KF.take 201) (zRl l) M L 200) (fun p => p = (KF.take 207, zRl (lX4 l), M, L) ∧ zC 207 (lX4 l) M L) := by
  unfold g_X4_init
  refine zT_kk (by decide) (by decide) kf_200 ?_
  refine zT_no g kf_201 (n1 := 202) rfl fun g => ?_
  refine zT_bd4 (zT_w (c_X6 g (by decide) (by decide) kf_201 kf_202 kf_203 kf_204 kf_205 (n4 := 206) rfl) ?_)
  rintro _ ⟨rfl, g⟩
  dsimp only
  refine zT_kk (by decide) (by decide) kf_200 ?_
  refine zT_kk (by decide) (by decide) kf_201 ?_
  refine zT_kk (by decide) (by decide) kf_200 ?_
  refine zT_pr g (by decide) (by decide) fun g => ?_
  refine zT_na g kf_206 (by decide) (n1 := 207) rfl fun g => ?_
  exact zT_some ⟨rfl, g⟩
def lX10 (l : zAs) : zAs := (207, 5, 213) :: r6 213 214 ((207, 4, 212) :: (207, 3, 211) :: (207, 2, 210) :: (207, 1, 209) :: (207, 0, 208) :: l)
theorem c_X10 (g : zC 208 l M L) : zT (g_X10_init (KF.take 208) (zRl l) M L 207) (fun p => p = (KF.take 218, zRl (lX10 l), M, L) ∧ zC 218 (lX10 l) M L) := by
  unfold g_X10_init
  refine zT_kk (by decide) (by decide) kf_207 ?_
  refine zT_na g kf_208 (by decide) (n1 := 209) rfl fun g => ?_
  refine zT_na g kf_209 (by decide) (n1 := 210) rfl fun g => ?_
  refine zT_na g kf_210 (by decide) (n1 := 211) rfl fun g => ?_
  refine zT_na g kf_211 (by decide) (n1 := 212) rfl fun g => ?_
  refine zT_na g kf_212 (by decide) (n1 := 213) rfl fun g => ?_
  refine zT_no g kf_213 (n1 := 214) rfl fun g => ?_
  refine zT_bd4 (zT_w (c_X6 g (by decide) (by decide) kf_213 kf_214 kf_215 kf_216 kf_217 (n4 := 218) rfl) ?_)
  rintro _ ⟨rfl, g⟩
  dsimp only
  refine zT_kk (by decide) (by decide) kf_207 ?_
  refine zT_kk (by decide) (by decide) kf_213 ?_
  refine zT_kk (by decide) (by decide) kf_207 ?_
  refine zT_pr g (by decide) (by decide) fun g => ?_
  exact zT_some ⟨rfl, g⟩
def lp : Nat → zAs → zAs
  | 0, l => l
  | k + 1, l => (19, k, 22 + 5 * k) :: r6 (22 + 5 * k) (22 + 5 * k + 1) (lp k l)
def ls_ : Nat → zAs → zAs
  | 0, l => l
  | k + 1, l => (20, k, 22 + 5 * (30 + k)) :: r6 (22 + 5 * (30 + k)) (22 + 5 * (30 + k) + 1) (ls_ k l)
def lX2 (l : zAs) : zAs := ls_ 3 (lp 30 ((18, 2, 21) :: (18, 1, 20) :: (18, 0, 19) :: l))
theorem c_X2a (h18 : zRl l 18 0 = 19) (g : zC 22 l M L) : zT (zloop zN (fun v => b_X2_init_g_30 v.2.1 v.2.2.1 v.2.2.2.1 v.2.2.2.2 18 v.1) ((0 : Int32), KF.take 22, zRl l, M, L)) (fun e => e = (KF.take 172, zRl (lp 30 l), M, L) ∧ zC 172 (lp 30 l) M L) := by
  refine zT_for 30 (fun k v => v = (nI k, KF.take (22 + 5 * k), zRl (lp k l), M, L) ∧ zC (22 + 5 * k) (lp k l) M L ∧ zRl (lp k l) 18 0 = 19) ⟨rfl, g, h18⟩ (by omega) ?_ ?_
  · rintro k _ hk ⟨rfl, g, h⟩
    dsimp only
    obtain ⟨p0, p1, p2, p3, p4⟩ := kf_p k (by omega)
    unfold b_X2_init_g_30
    rw [h]
    refine zT_kk (by decide) (by omega) kf_18 (zT_kk (by decide) (by omega) kf_19 (zT_if0 (by rw [nI_lit 30]; exact nI_ge hk (by omega)) (zT_kk (by decide) (by omega) kf_19 ?_)))
    refine zT_no g p0 (n1 := 22 + 5 * k + 1) rfl fun g => ?_
    refine zT_bd4 (zT_w (c_X6 g (by omega) (by omega) p0 p1 p2 p3 p4 (n4 := 22 + 5 * (k + 1)) (by omega)) ?_)
    rintro _ ⟨rfl, g⟩
    dsimp only
    refine zT_kk (by decide) (by omega) kf_18 (zT_kk (by omega) (by omega) p0 (zT_kk (by decide) (by omega) kf_19 (zT_ck (zin_nI (by omega) (by omega)) ?_)))
    rw [ztn_nI (by omega)]
    refine zT_pr g (by omega) (by omega) fun g => ?_
    refine zT_some ⟨?_, g, ?_⟩
    · rw [nI_1]
      rfl
    · show zRl ((19, k, 22 + 5 * k) :: r6 (22 + 5 * k) (22 + 5 * k + 1) (lp k l)) 18 0 = 19
      rw [zRl_c (by omega), r6_o (by omega)]
      exact h
  · rintro _ ⟨rfl, g, h⟩
    dsimp only
    unfold b_X2_init_g_30
    rw [h]
    exact zT_kk (by decide) (by omega) kf_18 (zT_kk (by decide) (by omega) kf_19 (zT_if1 (by decide) (zT_some ⟨rfl, g⟩)))
theorem c_X2b (h18 : zRl l 18 1 = 20) (g : zC 172 l M L) : zT (zloop zN (fun v => b_X2_init_g_60 v.2.1 v.2.2.1 v.2.2.2.1 v.2.2.2.2 18 v.1) ((0 : Int32), KF.take 172, zRl l, M, L)) (fun e => e = (KF.take 187, zRl (ls_ 3 l), M, L) ∧ zC 187 (ls_ 3 l) M L) := by
  refine zT_for 3 (fun k v => v = (nI k, KF.take (22 + 5 * (30 + k)), zRl (ls_ k l), M, L) ∧ zC (22 + 5 * (30 + k)) (ls_ k l) M L ∧ zRl (ls_ k l) 18 1 = 20) ⟨rfl, g, h18⟩ (by omega) ?_ ?_
  · rintro k _ hk ⟨rfl, g, h⟩
    dsimp only
    obtain ⟨p0, p1, p2, p3, p4⟩ := kf_p (30 + k) (by omega)
    unfold b_X2_init_g_60
    rw [h]
    refine zT_kk (by decide) (by omega) kf_18 (zT_kk (by decide) (by omega) kf_20 (zT_if0 (by rw [nI_lit 3]; exact nI_ge hk (by omega)) (zT_kk (by decide) (by omega) kf_20 ?_)))
    refine zT_no g p0 (n1 := 22 + 5 * (30 + k) + 1) rfl fun g => ?_
    refine zT_bd4 (zT_w (c_X6 g (by omega) (by omega) p0 p1 p2 p3 p4 (n4 := 22 + 5 * (30 + (k + 1))) (by omega)) ?_)
    rintro _ ⟨rfl, g⟩
    dsimp only
    refine zT_kk (by decide) (by omega) kf_18 (zT_kk (by omega) (by omega) p0 (zT_kk (by decide) (by omega) kf_20 (zT_ck (zin_nI (by omega) (by omega)) ?_)))
    rw [ztn_nI (by omega)]
    refine zT_pr g (by omega) (by omega) fun g => ?_
    refine zT_some ⟨?_, g, ?_⟩
    · rw [nI_1]
      rfl
    · show zRl ((20, k, 22 + 5 * (30 + k)) :: r6 (22 + 5 * (30 + k)) (22 + 5 * (30 + k) + 1) (ls_ k l)) 18 1 = 20
      rw [zRl_c (by omega), r6_o (by omega)]
      exact h
  · rintro _ ⟨rfl, g, h⟩
    dsimp only
    unfold b_X2_init_g_60
    rw [h]
    exact zT_kk (by decide) (by omega) kf_18 (zT_kk (by decide) (by omega) kf_20 (zT_if1 (by decide) (zT_some ⟨rfl, g⟩)))
theorem lp_o {j : Nat} (hj : j < 22) (hj2 : j ≠ 19) : ∀ k b, zRl (lp k l) j b = zRl l j b
  | 0, _ => rfl
  | k + 1, b => by
    show zRl ((19, k, 22 + 5 * k) :: r6 (22 + 5 * k) (22 + 5 * k + 1) (lp k l)) j b = _
    rw [zRl_c (by omega), r6_o (by omega)]
    exact lp_o hj hj2 k b
theorem c_X2 (g : zC 19 l M L) : zT (g_X2_init (KF.take 19) (zRl l) M L 18) (fun p => p = (KF.take 187, zRl (lX2 l), M, L) ∧ zC 187 (lX2 l) M L) := by
  unfold g_X2_init
  refine zT_kk (by decide) (by decide) kf_18 ?_
  refine zT_nq g kf_19 (by decide) (n1 := 20) rfl fun g => ?_
  refine zT_nq g kf_20 (by decide) (n1 := 21) rfl fun g => ?_
  refine zT_na g kf_21 (by decide) (n1 := 22) rfl fun g => ?_
  refine zT_bd (zT_w (c_X2a (by rfl) g) ?_)
  rintro _ ⟨rfl, g⟩
  dsimp only
  refine zT_kk (by decide) (by decide) kf_18 ?_
  refine zT_bd (zT_w (c_X2b ?_ g) ?_)
  · rw [lp_o (by decide) (by decide)]
    rfl
  rintro _ ⟨rfl, g⟩
  dsimp only
  exact zT_some ⟨rfl, g⟩
def r7 (q : Nat) (l : zAs) : zAs := (q, 4, q + 11) :: (q, 3, q + 10) :: (q, 2, q + 9) :: (q, 1, q + 5) :: r3 (q + 5) (q + 6) ((q, 0, q + 1) :: r3 (q + 1) (q + 2) l)
theorem r7_q (hq : q = 218 ∨ q = 230) : zRq (zRl (r7 q l)) q := by
  rcases hq with rfl | rfl <;> exact ⟨rfl, rfl, rfl, rfl, rfl, rfl, rfl, rfl, rfl, rfl, rfl⟩
theorem g_X3_add_f {K : zK} {R : zR} {a0 : Nat} (h0 : a0 ≠ 0) (k0 : K[a0]? = some (3, 5)) (r0 : R a0 0 ≠ 0) (k1 : K[R a0 0]? = some (20, 400)) (r1 : R a0 1 ≠ 0) (k2 : K[R a0 1]? = some (20, 400)) (M : zM) (x1 x2 : Int32) : g_X3_add K R M a0 x1 x2 = f_X3_add R M a0 x1 x2 := by
  unfold g_X3_add f_X3_add
  simp only [zkk_t h0 k0, zkk_t r0 k1, zkk_t r1 k2]
theorem g_X3_clear_f {K : zK} {a0 : Nat} (h0 : a0 ≠ 0) (k0 : K[a0]? = some (3, 5)) (M : zM) : g_X3_clear K M a0 = f_X3_clear M a0 := by
  unfold g_X3_clear f_X3_clear
  simp only [zkk_t h0 k0]
theorem g_X3_beSeen_f {K : zK} {R : zR} {a0 : Nat} (h0 : a0 ≠ 0) (k0 : K[a0]? = some (3, 5)) (r0 : R a0 0 ≠ 0) (k1 : K[R a0 0]? = some (20, 400)) (r1 : R a0 1 ≠ 0) (k2 : K[R a0 1]? = some (20, 400)) (M : zM) (x1 : Int32) : g_X3_beSeen K R M a0 x1 = f_X3_beSeen R M a0 x1 := by
  unfold g_X3_beSeen f_X3_beSeen
  simp only [zkk_t h0 k0, g_X3_clear_f h0 k0, g_X3_add_f h0 k0 r0 k1 r1 k2]
theorem g_X3_beNumber_f {K : zK} {R : zR} {a0 : Nat} (h0 : a0 ≠ 0) (k0 : K[a0]? = some (3, 5)) (r0 : R a0 0 ≠ 0) (k1 : K[R a0 0]? = some (20, 400)) (r1 : R a0 1 ≠ 0) (k2 : K[R a0 1]? = some (20, 400)) (M : zM) (x1 : Int32) : g_X3_beNumber K R M a0 x1 = f_X3_beNumber R M a0 x1 := by
  unfold g_X3_beNumber f_X3_beNumber
  simp only [zkk_t h0 k0, g_X3_clear_f h0 k0, g_X3_add_f h0 k0 r0 k1 r1 k2]
theorem g_X7_clear_f {K : zK} {R : zR} (hR : zRq R q) (hq : q = 218 ∨ q = 230) (hK : ∀ a kd, q ≤ a → a < q + 12 → KF[a]? = some kd → K[a]? = some kd) (M : zM) : g_X7_clear K R M q = f_X7_clear R M q := by
  obtain ⟨q0, q1, q2, q3, q4, s0, s1, s2, t0, t1, t2⟩ := hR
  have kq : K[q]? = some (7, 11) := hK _ _ (by omega) (by omega) (by rcases hq with rfl | rfl; exact kf_218; exact kf_230)
  have k1 : K[q + 1]? = some (3, 5) := hK _ _ (by omega) (by omega) (by rcases hq with rfl | rfl; exact kf_219; exact kf_231)
  have k2 : K[q + 2]? = some (20, 400) := hK _ _ (by omega) (by omega) (by rcases hq with rfl | rfl; exact kf_220; exact kf_232)
  have k3 : K[q + 3]? = some (20, 400) := hK _ _ (by omega) (by omega) (by rcases hq with rfl | rfl; exact kf_221; exact kf_233)
  have k5 : K[q + 5]? = some (3, 5) := hK _ _ (by omega) (by omega) (by rcases hq with rfl | rfl; exact kf_223; exact kf_235)
  have k6 : K[q + 6]? = some (20, 400) := hK _ _ (by omega) (by omega) (by rcases hq with rfl | rfl; exact kf_224; exact kf_236)
  have k7 : K[q + 7]? = some (20, 400) := hK _ _ (by omega) (by omega) (by rcases hq with rfl | rfl; exact kf_225; exact kf_237)
  unfold g_X7_clear f_X7_clear
  rw [q0, q1]
  simp only [zkk_t (show q ≠ 0 by omega) kq, zkk_t (show q + 1 ≠ 0 by omega) k1, zkk_t (show q + 5 ≠ 0 by omega) k5, g_X3_beSeen_f (R := R) (show q + 1 ≠ 0 by omega) k1 (by rw [s0]; omega) (by rw [s0]; exact k2) (by rw [s1]; omega) (by rw [s1]; exact k3), g_X3_beNumber_f (R := R) (show q + 5 ≠ 0 by omega) k5 (by rw [t0]; omega) (by rw [t0]; exact k6) (by rw [t1]; omega) (by rw [t1]; exact k7)]
theorem X7_clearS {R : zR} (hRq : zRq R q) (hq : 12 < q) (M1 : zM) : zT (f_X7_clear R M1 q) (fun M4 => clR q ru0 none M4 ∧ M4 q 5 = 0 ∧ zag (fun b _ => q ≤ b ∧ b ≤ q + 9) M1 M4) := by
  unfold f_X7_clear
  obtain ⟨q0, q1, q2, _, _, r1, r2, _, r5, r6, _⟩ := id hRq
  rw [q0, q1]
  have clr : ∀ (M1 : zM) (a : Nat) (k x : Int32) (Q : zPr), zLr R a → 12 < a → (k = 1 ∨ k = 2) → ¬ (k = 2 ∧ x = 5) → fP Q = [(k, x, 0), (4, 0, 0)] → noLot Q → zT (zbd (f_X3_clear M1 a) fun M1 => zbd (f_X3_add R M1 a k x) fun M3 => zbd (f_X3_add R M3 a (4 : Int32) (0 : Int32)) fun M5 => some M5) (fun M2 => lawC M2 a Q ∧ zag (adA a) M1 M2) := fun M1 a k x Q hR ha hk hkx hQ hn => by
    unfold f_X3_clear
    refine zT_bd (zT_lt (zT_lt (zT_some ?_)))
    have g0 : zag (adA a) M1 (zup (zup M1 a 3 0) a 4 0) := (zag.rf.up (Or.inr (Or.inr ⟨rfl, Or.inl rfl⟩))).up (Or.inr (Or.inr ⟨rfl, Or.inr rfl⟩))
    have v3 : zup (zup M1 a 3 0) a 4 0 a 3 = nI 0 := by rw [zup_k (by omega), zup_same]; rfl
    generalize zup (zup M1 a 3 0) a 4 0 = M2 at g0 v3 ⊢
    refine zT_bd (zT_w (X3_add hR v3 (by omega) k x) ?_)
    rintro M3 ⟨a1, a2, a3, a4, a5, a6⟩
    refine zT_bd (zT_w (X3_add hR a1 (by omega) 4 0) ?_)
    rintro M4 ⟨b1, b2, b3, b4, b5, b6⟩
    obtain ⟨e1, e2⟩ := b4 0 (by omega)
    refine zT_some ⟨⟨by rw [b1, hQ]; rfl, by rw [hQ]; show 2 ≤ 400; omega, ?_, fun _ => hn⟩, (g0.tr a6).tr b6⟩
    rw [hQ]
    refine ⟨by rw [e1]; exact a2, fun _ => by rw [e2]; exact a3, fun z => ?_, b2, fun z => absurd z (by decide), fun z => absurd z (by decide), trivial⟩
    rcases hk with w | w <;> rw [w] at z <;> exact absurd z (by decide)
  have n0 : noLot (dflt 0) := fun b hb i hi _ => by
    have : b = (none, [(1, 3)]) := by simpa [dflt] using hb
    subst this
    have : i = (1, 3) := by simpa [inB] using hi
    subst this
    decide
  have n1 : noLot (dflt 1) := fun b hb i hi h1 => by
    have : b = (none, [(0, 0)]) := by simpa [dflt] using hb
    subst this
    have : i = (0, 0) := by simpa [inB] using hi
    subst this
    exact absurd h1 (by decide)
  refine zT_bd (zT_w (clr M1 (q + 1) 2 3 (dflt 0) ⟨r1, r2⟩ (by omega) (Or.inr rfl) (by decide) rfl n0) ?_)
  rintro M2 ⟨l2, g2⟩
  refine zT_bd (zT_w (clr M2 (q + 5) 1 0 (dflt 1) ⟨r5, r6⟩ (by omega) (Or.inl rfl) (by decide) rfl n1) ?_)
  rintro M3 ⟨l3, g3⟩
  refine zT_lt (zT_lt (zT_lt (zT_lt (zT_lt (zT_lt (zT_some ?_))))))
  have l3' : lawC M3 (q + 1) (dflt 0) := l2.eq (fun b k q1 q2 => g3 b k (by unfold adA; omega))
  have hg : zag (fun b _ => q ≤ b ∧ b ≤ q + 9) M1 M3 := (g2.mo (fun b k w => by unfold adA at w; omega)).tr (g3.mo (fun b k w => by unfold adA at w; omega))
  have fO : ∀ b k, b ≠ q → zup (zup (zup (zup (zup (zup M3 q 5 0) q 6 0) q 7 0) q 8 0) q 9 7) q 10 0 b k = M3 b k := fun b k h1 => by
    rw [zup_a h1, zup_a h1, zup_a h1, zup_a h1, zup_a h1, zup_a h1]
  have pq : q ≤ q ∧ q ≤ q + 9 := by omega
  refine ⟨⟨?_, ?_, fun _ => ⟨?_, ?_⟩, ?_, l3'.eq (fun b k q1 q2 => fO b k (by omega)), l3.eq (fun b k q1 q2 => fO b k (by omega))⟩, ?_, (((((hg.up pq).up pq).up pq).up pq).up pq).up pq⟩
  · rw [zup_k (by omega), zup_k (by omega), zup_k (by omega), zup_k (by omega), zup_same]; rfl
  · rw [zup_k (by omega), zup_k (by omega), zup_k (by omega), zup_same]; rfl
  · rw [zup_k (by omega), zup_k (by omega), zup_same]; rfl
  · rw [zup_k (by omega), zup_same]; rfl
  · rw [zup_same]; rfl
  · rw [zup_k (by omega), zup_k (by omega), zup_k (by omega), zup_k (by omega), zup_k (by omega), zup_same]
theorem c_X7_218 (g : zC 219 l M L) : zT (g_X7_init (KF.take 219) (zRl l) M L 218) (fun p => ∃ M1, p = (KF.take 230, zRl (r7 218 l), M1, L) ∧ zC 230 (r7 218 l) M1 L ∧ clR 218 ru0 none M1 ∧ M1 218 5 = 0 ∧ zag (fun b _ => 218 ≤ b ∧ b ≤ 227) M M1) := by
  unfold g_X7_init
  refine zT_kk (by decide) (by decide) kf_218 ?_
  refine zT_no g kf_219 (n1 := 220) rfl fun g => ?_
  refine zT_bd4 (zT_w (c_X3 g (by decide) (by decide) kf_219 kf_220 kf_221 kf_222 (n4 := 223) rfl) ?_)
  rintro _ ⟨rfl, g⟩
  dsimp only
  refine zT_kk (by decide) (by decide) kf_218 ?_
  refine zT_kk (by decide) (by decide) kf_219 ?_
  refine zT_kk (by decide) (by decide) kf_218 ?_
  refine zT_pr g (by decide) (by decide) fun g => ?_
  refine zT_no g kf_223 (n1 := 224) rfl fun g => ?_
  refine zT_bd4 (zT_w (c_X3 g (by decide) (by decide) kf_223 kf_224 kf_225 kf_226 (n4 := 227) rfl) ?_)
  rintro _ ⟨rfl, g⟩
  dsimp only
  refine zT_kk (by decide) (by decide) kf_218 ?_
  refine zT_kk (by decide) (by decide) kf_223 ?_
  refine zT_kk (by decide) (by decide) kf_218 ?_
  refine zT_pr g (by decide) (by decide) fun g => ?_
  refine zT_na g kf_227 (by decide) (n1 := 228) rfl fun g => ?_
  refine zT_na g kf_228 (by decide) (n1 := 229) rfl fun g => ?_
  refine zT_na g kf_229 (by decide) (n1 := 230) rfl fun g => ?_
  have hRq : zRq (zRl (r7 218 l)) 218 := r7_q (Or.inl rfl)
  have hcl : g_X7_clear (KF.take 230) (zRl (r7 218 l)) M 218 = f_X7_clear (zRl (r7 218 l)) M 218 := g_X7_clear_f hRq (Or.inl rfl) (fun a kd h1 h2 h => KF_at (by omega) h) M
  refine zT_bd ?_
  rw [show g_X7_clear (KF.take 230) (zRl (((218, 4, 229) :: (218, 3, 228) :: (218, 2, 227) :: (218, 1, 223) :: r3 223 224 ((218, 0, 219) :: r3 219 220 l)))) M 218 = _ from hcl]
  refine zT_w (X7_clearS hRq (by decide) M) ?_
  rintro M1 ⟨c1, c2, c3⟩
  exact zT_some ⟨M1, rfl, ⟨g.1, g.2.1, g.2.2.1, fun b j hb => (c3 b j (by omega)).trans (g.2.2.2.1 b j hb), g.2.2.2.2⟩, c1, c2, c3⟩
theorem c_X7_230 (g : zC 231 l M L) : zT (g_X7_init (KF.take 231) (zRl l) M L 230) (fun p => ∃ M1, p = (KF.take 242, zRl (r7 230 l), M1, L) ∧ zC 242 (r7 230 l) M1 L ∧ clR 230 ru0 none M1 ∧ M1 230 5 = 0 ∧ zag (fun b _ => 230 ≤ b ∧ b ≤ 239) M M1) := by
  unfold g_X7_init
  refine zT_kk (by decide) (by decide) kf_230 ?_
  refine zT_no g kf_231 (n1 := 232) rfl fun g => ?_
  refine zT_bd4 (zT_w (c_X3 g (by decide) (by decide) kf_231 kf_232 kf_233 kf_234 (n4 := 235) rfl) ?_)
  rintro _ ⟨rfl, g⟩
  dsimp only
  refine zT_kk (by decide) (by decide) kf_230 ?_
  refine zT_kk (by decide) (by decide) kf_231 ?_
  refine zT_kk (by decide) (by decide) kf_230 ?_
  refine zT_pr g (by decide) (by decide) fun g => ?_
  refine zT_no g kf_235 (n1 := 236) rfl fun g => ?_
  refine zT_bd4 (zT_w (c_X3 g (by decide) (by decide) kf_235 kf_236 kf_237 kf_238 (n4 := 239) rfl) ?_)
  rintro _ ⟨rfl, g⟩
  dsimp only
  refine zT_kk (by decide) (by decide) kf_230 ?_
  refine zT_kk (by decide) (by decide) kf_235 ?_
  refine zT_kk (by decide) (by decide) kf_230 ?_
  refine zT_pr g (by decide) (by decide) fun g => ?_
  refine zT_na g kf_239 (by decide) (n1 := 240) rfl fun g => ?_
  refine zT_na g kf_240 (by decide) (n1 := 241) rfl fun g => ?_
  refine zT_na g kf_241 (by decide) (n1 := 242) rfl fun g => ?_
  have hRq : zRq (zRl (r7 230 l)) 230 := r7_q (Or.inr rfl)
  have hcl : g_X7_clear (KF.take 242) (zRl (r7 230 l)) M 230 = f_X7_clear (zRl (r7 230 l)) M 230 := g_X7_clear_f hRq (Or.inr rfl) (fun a kd h1 h2 h => KF_at (by omega) h) M
  refine zT_bd ?_
  rw [show g_X7_clear (KF.take 242) (zRl (((230, 4, 241) :: (230, 3, 240) :: (230, 2, 239) :: (230, 1, 235) :: r3 235 236 ((230, 0, 231) :: r3 231 232 l)))) M 230 = _ from hcl]
  refine zT_w (X7_clearS hRq (by decide) M) ?_
  rintro M1 ⟨c1, c2, c3⟩
  exact zT_some ⟨M1, rfl, ⟨g.1, g.2.1, g.2.2.1, fun b j hb => (c3 b j (by omega)).trans (g.2.2.2.1 b j hb), g.2.2.2.2⟩, c1, c2, c3⟩
def zsN : Nat → Nat
  | 0 => 0
  | j + 1 => if zWch (nI j) = 32 then zsN j + 1 else zsN j
def zsR : Nat → Nat → Int64
  | 0 => fun _ => 0
  | j + 1 => if zWch (nI j) = 32 then zsR j else fun k => if k = zsN j then 32 * zsR j k + ((zWch (nI j) - 97) + 1).toInt64 else zsR j k
theorem zsN_lt : ∀ j, j < 103 → zWch (nI j) ≠ 32 → zsN j < 20 := by decide +kernel
theorem zsN_le : ∀ j, j < 104 → zsN j ≤ 103 := by decide +kernel
theorem zsR_end : ∀ k, k < 20 → zsR 103 k = e32 (wdC.getD k []) := by decide +kernel
def lX9 (l : zAs) : zAs := (6, 3, 10) :: (6, 2, 9) :: (6, 1, 8) :: (6, 0, 7) :: l
theorem c_X9 (g : zC 7 l M L) : zT (g_X9_init (KF.take 7) (zRl l) M L 6) (fun p => ∃ L1, p = (KF.take 11, zRl (lX9 l), M, L1) ∧ zC 11 (lX9 l) M L1 ∧ wdOkC L1) := by
  have z10 : ∀ j, L 10 j = 0 := fun j => g.2.2.2.2 10 j (by decide)
  unfold g_X9_init
  refine zT_kk (by decide) (by decide) kf_6 ?_
  refine zT_na g kf_7 (by decide) (n1 := 8) rfl fun g => ?_
  refine zT_na g kf_8 (by decide) (n1 := 9) rfl fun g => ?_
  refine zT_na g kf_9 (by decide) (n1 := 10) rfl fun g => ?_
  refine zT_na g kf_10 (by decide) (n1 := 11) rfl fun g => ?_
  refine zT_bd (zT_w (Q := fun L1 => zC 11 (lX9 l) M L1 ∧ wdOkC L1) ?_ ?_)
  rotate_left
  · rintro L1 ⟨g1, w1⟩
    exact zT_some ⟨L1, rfl, g1, w1⟩
  have g0 : zC 11 (lX9 l) M L := g
  refine zT_for 103 (fun j v => v.1 = nI (zsN j) ∧ v.2.1 = nI j ∧ (∀ k, v.2.2 10 k = zsR j k) ∧ zC 11 (lX9 l) M v.2.2) ⟨rfl, rfl, z10, g0⟩ (by omega) ?_ ?_
  · rintro j ⟨x1, x2, L1⟩ hj ⟨rfl, rfl, hR, g⟩
    dsimp only at hR g ⊢
    have r3 : zRl ((6, 3, 10) :: (6, 2, 9) :: (6, 1, 8) :: (6, 0, 7) :: l) 6 3 = 10 := rfl
    unfold b_X9_init_g_43
    rw [r3]
    refine zT_kk (by decide) (by decide) kf_6 (zT_if0 (by rw [nI_lit 103]; exact nI_ge hj (by omega)) (zT_ck (zin_nI hj (by omega)) ?_))
    by_cases c : zWch (nI j) = 32
    · refine zT_if1 c (zT_some ⟨?_, nI_1 j, ?_, g⟩)
      · show nI (zsN j) + 1 = nI (zsN (j + 1))
        rw [nI_1, zsN, if_pos c]
      · intro k
        show L1 10 k = zsR (j + 1) k
        rw [zsR, if_pos c]
        exact hR k
    · have hk := zsN_lt j hj c
      refine zT_if0 c (zT_kk (by decide) (by decide) kf_10 (zT_if0 (by rw [nI_lit 20]; exact nI_ge hk (by omega)) (zT_kk (by decide) (by decide) kf_10 (zT_kk (by decide) (by decide) kf_10 (zT_ck (zin_nI hk (by omega)) (zT_ck (zin_nI hj (by omega)) ?_))))))
      unfold g_X9_spelled
      rw [ztn_nI (by omega)]
      refine zT_bd (zT_some (zT_ck (zin_nI hk (by omega)) (zT_lt (zT_some ⟨?_, nI_1 j, fun k => ?_, g.upL (by decide)⟩))))
      · show nI (zsN j) = nI (zsN (j + 1))
        rw [zsN, if_neg c]
      · show zupL L1 10 (zsN j) _ 10 k = zsR (j + 1) k
        rw [zsR, if_neg c]
        unfold zupL
        rw [if_pos rfl]
        by_cases e : k = zsN j
        · rw [if_pos e, if_pos e, hR, e]
        · rw [if_neg e, if_neg e, hR]
  · rintro ⟨x1, x2, L1⟩ ⟨rfl, rfl, hR, g⟩
    dsimp only at hR g ⊢
    unfold b_X9_init_g_43
    refine zT_kk (by decide) (by decide) kf_6 (zT_if1 (by decide) (zT_some ⟨g, fun k hk => ?_⟩))
    rw [hR]
    exact zsR_end k hk
def lX5 (l : zAs) : zAs := (5, 2, 12) :: (5, 1, 11) :: (5, 0, 6) :: lX9 l
theorem c_X5 (g : zC 6 l M L) : zT (g_X5_init (KF.take 6) (zRl l) M L 5) (fun p => ∃ L1, p = (KF.take 13, zRl (lX5 l), M, L1) ∧ zC 13 (lX5 l) M L1 ∧ wdOkC L1) := by
  unfold g_X5_init
  refine zT_kk (by decide) (by decide) kf_5 ?_
  refine zT_no g kf_6 (n1 := 7) rfl fun g => ?_
  refine zT_bd4 (zT_w (c_X9 g) ?_)
  rintro _ ⟨L1, rfl, g, w1⟩
  dsimp only
  refine zT_kk (by decide) (by decide) kf_5 ?_
  refine zT_kk (by decide) (by decide) kf_6 ?_
  refine zT_kk (by decide) (by decide) kf_5 ?_
  refine zT_pr g (by decide) (by decide) fun g => ?_
  refine zT_na g kf_11 (by decide) (n1 := 12) rfl fun g => ?_
  refine zT_na g kf_12 (by decide) (n1 := 13) rfl fun g => ?_
  exact zT_some ⟨L1, rfl, g, w1⟩
def lX11 : zAs := (2, 9, 230) :: r7 230 ((2, 8, 218) :: r7 218 ((2, 7, 207) :: lX10 ((2, 6, 200) :: lX4 ((2, 5, 194) :: lX0 ((2, 4, 187) :: lX1 ((2, 3, 18) :: lX2 ((2, 2, 13) :: r6 13 14 ((2, 1, 5) :: lX5 ((2, 0, 3) :: lX8 [])))))))))
theorem g_X6_begin_0 {K : zK} {R : zR} {M : zM} {L : zL} {r q : Nat} (h0 : r ≠ 0) (k0 : K[r]? = some (6, 8)) (h1 : q ≠ 0) (k1 : K[q]? = some (7, 11)) (hq : q ≠ r) (h5 : M q 5 = 0) : zT (g_X6_begin K R M L r q) (fun p => p = (zup (zup (zup (zup M r 4 0) r 5 0) r 6 0) r 7 0, L)) := by
  unfold g_X6_begin
  rw [zkk_t h0 k0, zkk_t h1 k1]
  refine zT_lt (zT_lt (zT_lt (zT_lt (zT_bd ?_))))
  have e5 : zup (zup (zup (zup M r 4 0) r 5 0) r 6 0) r 7 0 q 5 = 0 := by rw [zup_a hq, zup_a hq, zup_a hq, zup_a hq]; exact h5
  generalize zup (zup (zup (zup M r 4 0) r 5 0) r 6 0) r 7 0 = M2 at e5 ⊢
  refine zT_for 0 (fun k v => v = (0, M2, L)) rfl (by omega) (fun k v hk => absurd hk (by omega)) ?_
  rintro _ rfl
  dsimp only
  unfold b_X6_begin_g_22
  rw [zkk_t h0 k0, zkk_t h1 k1]
  exact zT_if1 (by rw [e5]; exact Int32.le_refl _) (zT_some (zT_some rfl))
theorem c_X11 (g : zC 3 [] M L) : zT (g_X11_init (KF.take 3) (zRl []) M L 2) (fun p => ∃ M1 L1, p = (KF.take 242, zRl lX11, M1, L1) ∧ zC 242 lX11 M1 L1 ∧ wdOkC L1 ∧ clR 218 ru0 none M1 ∧ M1 2 10 = -1 ∧ M1 13 4 = 0 ∧ M1 13 5 = 0 ∧ M1 13 6 = 0 ∧ M1 13 7 = 0 ∧ zag (fun b k => (218 ≤ b ∧ b < 242) ∨ (b = 2 ∧ k = 10) ∨ (b = 13 ∧ 4 ≤ k)) M M1) := by
  unfold g_X11_init
  refine zT_kk (by decide) (by decide) kf_2 ?_
  refine zT_no g kf_3 (n1 := 4) rfl fun g => ?_
  refine zT_bd4 (zT_w (c_X8 g) ?_)
  rintro _ ⟨rfl, g⟩
  dsimp only
  refine zT_kk (by decide) (by decide) kf_2 ?_
  refine zT_kk (by decide) (by decide) kf_3 ?_
  refine zT_kk (by decide) (by decide) kf_2 ?_
  refine zT_pr g (by decide) (by decide) fun g => ?_
  refine zT_no g kf_5 (n1 := 6) rfl fun g => ?_
  refine zT_bd4 (zT_w (c_X5 g) ?_)
  rintro _ ⟨L1, rfl, g, w1⟩
  dsimp only
  refine zT_kk (by decide) (by decide) kf_2 ?_
  refine zT_kk (by decide) (by decide) kf_5 ?_
  refine zT_kk (by decide) (by decide) kf_2 ?_
  refine zT_pr g (by decide) (by decide) fun g => ?_
  refine zT_no g kf_13 (n1 := 14) rfl fun g => ?_
  refine zT_bd4 (zT_w (c_X6 g (by decide) (by decide) kf_13 kf_14 kf_15 kf_16 kf_17 (n4 := 18) rfl) ?_)
  rintro _ ⟨rfl, g⟩
  dsimp only
  refine zT_kk (by decide) (by decide) kf_2 ?_
  refine zT_kk (by decide) (by decide) kf_13 ?_
  refine zT_kk (by decide) (by decide) kf_2 ?_
  refine zT_pr g (by decide) (by decide) fun g => ?_
  refine zT_no g kf_18 (n1 := 19) rfl fun g => ?_
  refine zT_bd4 (zT_w (c_X2 g) ?_)
  rintro _ ⟨rfl, g⟩
  dsimp only
  refine zT_kk (by decide) (by decide) kf_2 ?_
  refine zT_kk (by decide) (by decide) kf_18 ?_
  refine zT_kk (by decide) (by decide) kf_2 ?_
  refine zT_pr g (by decide) (by decide) fun g => ?_
  refine zT_no g kf_187 (n1 := 188) rfl fun g => ?_
  refine zT_bd4 (zT_w (c_X1 g) ?_)
  rintro _ ⟨rfl, g⟩
  dsimp only
  refine zT_kk (by decide) (by decide) kf_2 ?_
  refine zT_kk (by decide) (by decide) kf_187 ?_
  refine zT_kk (by decide) (by decide) kf_2 ?_
  refine zT_pr g (by decide) (by decide) fun g => ?_
  refine zT_no g kf_194 (n1 := 195) rfl fun g => ?_
  refine zT_bd4 (zT_w (c_X0 g) ?_)
  rintro _ ⟨rfl, g⟩
  dsimp only
  refine zT_kk (by decide) (by decide) kf_2 ?_
  refine zT_kk (by decide) (by decide) kf_194 ?_
  refine zT_kk (by decide) (by decide) kf_2 ?_
  refine zT_pr g (by decide) (by decide) fun g => ?_
  refine zT_no g kf_200 (n1 := 201) rfl fun g => ?_
  refine zT_bd4 (zT_w (c_X4 g) ?_)
  rintro _ ⟨rfl, g⟩
  dsimp only
  refine zT_kk (by decide) (by decide) kf_2 ?_
  refine zT_kk (by decide) (by decide) kf_200 ?_
  refine zT_kk (by decide) (by decide) kf_2 ?_
  refine zT_pr g (by decide) (by decide) fun g => ?_
  refine zT_no g kf_207 (n1 := 208) rfl fun g => ?_
  refine zT_bd4 (zT_w (c_X10 g) ?_)
  rintro _ ⟨rfl, g⟩
  dsimp only
  refine zT_kk (by decide) (by decide) kf_2 ?_
  refine zT_kk (by decide) (by decide) kf_207 ?_
  refine zT_kk (by decide) (by decide) kf_2 ?_
  refine zT_pr g (by decide) (by decide) fun g => ?_
  refine zT_no g kf_218 (n1 := 219) rfl fun g => ?_
  refine zT_bd4 (zT_w (c_X7_218 g) ?_)
  rintro _ ⟨M1, rfl, g, cl1, c15, z1⟩
  dsimp only
  refine zT_kk (by decide) (by decide) kf_2 ?_
  refine zT_kk (by decide) (by decide) kf_218 ?_
  refine zT_kk (by decide) (by decide) kf_2 ?_
  refine zT_pr g (by decide) (by decide) fun g => ?_
  refine zT_no g kf_230 (n1 := 231) rfl fun g => ?_
  refine zT_bd4 (zT_w (c_X7_230 g) ?_)
  rintro _ ⟨M2, rfl, g, cl2, c25, z2⟩
  dsimp only
  refine zT_kk (by decide) (by decide) kf_2 ?_
  refine zT_kk (by decide) (by decide) kf_230 ?_
  refine zT_kk (by decide) (by decide) kf_2 ?_
  refine zT_pr g (by decide) (by decide) fun g => ?_
  refine zT_lt ?_
  have hl : (2, 9, 230) :: r7 230 ((2, 8, 218) :: r7 218 ((2, 7, 207) :: lX10 ((2, 6, 200) :: lX4 ((2, 5, 194) :: lX0 ((2, 4, 187) :: lX1 ((2, 3, 18) :: lX2 ((2, 2, 13) :: r6 13 14 ((2, 1, 5) :: lX5 ((2, 0, 3) :: lX8 []))))))))) = lX11 := rfl
  rw [hl] at g ⊢
  have e2 : zRl lX11 2 2 = 13 := by decide +kernel
  have e8 : zRl lX11 2 8 = 218 := by decide +kernel
  rw [e2, e8]
  refine zT_kk (by decide) (by decide) kf_13 (zT_kk (by decide) (by decide) kf_218 ?_)
  have h5 : zup M2 2 10 (-1) 218 5 = 0 := by
    rw [zup_o (by decide), z2 218 5 (by decide)]
    exact c15
  refine zT_bd2 (zT_w (g_X6_begin_0 (by decide) (KF_at (by decide) kf_13) (by decide) (KF_at (by decide) kf_218) (by decide) h5) ?_)
  rintro _ rfl
  dsimp only
  have cl : clR 218 ru0 none M2 := cl1.eq (fun k _ _ => z2 218 k (by omega)) (fun b k b1 b2 => z2 b k (by omega))
  have fo : ∀ b k, ¬ (b = 13 ∧ 4 ≤ k) → ¬ (b = 2 ∧ k = 10) → zup (zup (zup (zup (zup M2 2 10 (-1)) 13 4 0) 13 5 0) 13 6 0) 13 7 0 b k = M2 b k := fun b k h1 h2 => by
    rw [zup_o (by omega), zup_o (by omega), zup_o (by omega), zup_o (by omega), zup_o (by omega)]
  refine zT_some ⟨_, L1, rfl, ((((g.up (by decide)).up (by decide)).up (by decide)).up (by decide)).up (by decide), w1, cl.eq (fun k _ _ => fo 218 k (by omega) (by omega)) (fun b k b1 b2 => fo b k (by omega) (by omega)), ?_, ?_, ?_, ?_, ?_, ?_⟩
  · rw [zup_o (by decide), zup_o (by decide), zup_o (by decide), zup_o (by decide), zup_same]
  · rw [zup_o (by decide), zup_o (by decide), zup_o (by decide), zup_same]
  · rw [zup_o (by decide), zup_o (by decide), zup_same]
  · rw [zup_o (by decide), zup_same]
  · rw [zup_same]
  · intro b k hb
    rw [fo b k (by omega) (by omega), z2 b k (by omega), z1 b k (by omega)]
end RUN

/-! THE START of both sides -/
section RUN
variable {l : zAs} {M : zM} {L : zL} {n : Nat}
def r12 (l : zAs) : zAs := (242, 60, 282) :: (242, 59, 281) :: (242, 58, 280) :: (242, 57, 279) :: (242, 56, 278) :: (242, 55, 277) :: (242, 54, 276) :: (242, 52, 275) :: (242, 50, 274) :: (242, 49, 273) :: (242, 47, 272) :: (242, 46, 271) :: (242, 45, 270) :: (242, 43, 269) :: (242, 42, 268) :: (242, 40, 267) :: (242, 39, 266) :: (242, 38, 265) :: (242, 36, 264) :: (242, 35, 263) :: (242, 34, 262) :: (242, 33, 261) :: (242, 32, 260) :: (242, 30, 259) :: (242, 29, 258) :: (242, 28, 257) :: (242, 27, 256) :: (242, 26, 255) :: (242, 25, 254) :: (242, 24, 253) :: (242, 23, 252) :: (242, 22, 251) :: (242, 21, 250) :: (242, 9, 249) :: (242, 8, 248) :: (242, 7, 247) :: (242, 6, 246) :: (242, 5, 245) :: (242, 3, 244) :: (242, 1, 243) :: l
theorem r12_27 (l : zAs) : zRl (r12 l) 242 27 = 256 := rfl
theorem r12_9 (l : zAs) : zRl (r12 l) 242 9 = 249 := rfl
def wdP (k : Nat) (L : zL) : Prop := ∀ j, j < k → L 249 j = e27 (wdR.getD j [])
theorem wdP.up {k : Nat} (h : wdP k L) : wdP (k + 1) (zupL L 249 k (e27 (wdR.getD k []))) := fun j hj => by
  unfold zupL
  rw [if_pos rfl]
  by_cases e : j = k
  · rw [if_pos e, e]
  · rw [if_neg e]
    exact h j (by omega)
theorem wdOkC.upL (h : wdOkC L) {k : Nat} {v : Int64} : wdOkC (zupL L 249 k v) := fun j hj => by
  unfold zupL
  rw [if_neg (by decide)]
  exact h j hj
theorem gw_0 : g_X12_word (KF.take 283) (104 : Int32) (111 : Int32) (117 : Int32) (115 : Int32) (101 : Int32) (0 : Int32) (0 : Int32) = some (e27 (wdR.getD 0 [])) := by decide +kernel
theorem gw_1 : g_X12_word (KF.take 283) (115 : Int32) (116 : Int32) (114 : Int32) (101 : Int32) (101 : Int32) (116 : Int32) (0 : Int32) = some (e27 (wdR.getD 1 [])) := by decide +kernel
theorem gw_2 : g_X12_word (KF.take 283) (116 : Int32) (117 : Int32) (114 : Int32) (110 : Int32) (115 : Int32) (0 : Int32) (0 : Int32) = some (e27 (wdR.getD 2 [])) := by decide +kernel
theorem gw_3 : g_X12_word (KF.take 283) (112 : Int32) (97 : Int32) (121 : Int32) (115 : Int32) (0 : Int32) (0 : Int32) (0 : Int32) = some (e27 (wdR.getD 3 [])) := by decide +kernel
theorem gw_4 : g_X12_word (KF.take 283) (101 : Int32) (97 : Int32) (114 : Int32) (110 : Int32) (115 : Int32) (0 : Int32) (0 : Int32) = some (e27 (wdR.getD 4 [])) := by decide +kernel
theorem gw_5 : g_X12_word (KF.take 283) (115 : Int32) (104 : Int32) (97 : Int32) (114 : Int32) (101 : Int32) (100 : Int32) (0 : Int32) = some (e27 (wdR.getD 5 [])) := by decide +kernel
theorem gw_6 : g_X12_word (KF.take 283) (97 : Int32) (108 : Int32) (105 : Int32) (107 : Int32) (101 : Int32) (0 : Int32) (0 : Int32) = some (e27 (wdR.getD 6 [])) := by decide +kernel
theorem gw_7 : g_X12_word (KF.take 283) (109 : Int32) (111 : Int32) (115 : Int32) (116 : Int32) (0 : Int32) (0 : Int32) (0 : Int32) = some (e27 (wdR.getD 7 [])) := by decide +kernel
theorem gw_8 : g_X12_word (KF.take 283) (114 : Int32) (111 : Int32) (117 : Int32) (110 : Int32) (100 : Int32) (0 : Int32) (0 : Int32) = some (e27 (wdR.getD 8 [])) := by decide +kernel
theorem gw_9 : g_X12_word (KF.take 283) (115 : Int32) (101 : Int32) (101 : Int32) (100 : Int32) (0 : Int32) (0 : Int32) (0 : Int32) = some (e27 (wdR.getD 9 [])) := by decide +kernel
theorem gw_10 : g_X12_word (KF.take 283) (105 : Int32) (102 : Int32) (0 : Int32) (0 : Int32) (0 : Int32) (0 : Int32) (0 : Int32) = some (e27 (wdR.getD 10 [])) := by decide +kernel
theorem gw_11 : g_X12_word (KF.take 283) (116 : Int32) (104 : Int32) (101 : Int32) (110 : Int32) (0 : Int32) (0 : Int32) (0 : Int32) = some (e27 (wdR.getD 11 [])) := by decide +kernel
theorem gw_12 : g_X12_word (KF.take 283) (101 : Int32) (108 : Int32) (115 : Int32) (101 : Int32) (0 : Int32) (0 : Int32) (0 : Int32) = some (e27 (wdR.getD 12 [])) := by decide +kernel
theorem gw_13 : g_X12_word (KF.take 283) (108 : Int32) (101 : Int32) (102 : Int32) (116 : Int32) (0 : Int32) (0 : Int32) (0 : Int32) = some (e27 (wdR.getD 13 [])) := by decide +kernel
theorem gw_14 : g_X12_word (KF.take 283) (114 : Int32) (105 : Int32) (103 : Int32) (104 : Int32) (116 : Int32) (0 : Int32) (0 : Int32) = some (e27 (wdR.getD 14 [])) := by decide +kernel
theorem gw_15 : g_X12_word (KF.take 283) (111 : Int32) (119 : Int32) (110 : Int32) (0 : Int32) (0 : Int32) (0 : Int32) (0 : Int32) = some (e27 (wdR.getD 15 [])) := by decide +kernel
theorem gw_16 : g_X12_word (KF.take 283) (103 : Int32) (97 : Int32) (112 : Int32) (0 : Int32) (0 : Int32) (0 : Int32) (0 : Int32) = some (e27 (wdR.getD 16 [])) := by decide +kernel
theorem gw_17 : g_X12_word (KF.take 283) (100 : Int32) (97 : Int32) (121 : Int32) (0 : Int32) (0 : Int32) (0 : Int32) (0 : Int32) = some (e27 (wdR.getD 17 [])) := by decide +kernel
theorem gw_18 : g_X12_word (KF.take 283) (108 : Int32) (111 : Int32) (116 : Int32) (0 : Int32) (0 : Int32) (0 : Int32) (0 : Int32) = some (e27 (wdR.getD 18 [])) := by decide +kernel
theorem gw_19 : g_X12_word (KF.take 283) (112 : Int32) (111 : Int32) (116 : Int32) (0 : Int32) (0 : Int32) (0 : Int32) (0 : Int32) = some (e27 (wdR.getD 19 [])) := by decide +kernel
set_option maxRecDepth 20000 in
theorem c_X12 (g : zC 243 l M L) (hc : wdOkC L) : zT (g_X12_init (KF.take 243) (zRl l) M L 242) (fun p => ∃ L1, p = (KF.take 283, zRl (r12 l), zup (zup M 242 17 (-1)) 256 0 7, L1) ∧ wdOkC L1 ∧ wdOkR L1) := by
  unfold g_X12_init
  refine zT_kk (by decide) (by decide) kf_242 ?_
  refine zT_na g kf_243 (by decide) (n1 := 244) rfl fun g => ?_
  refine zT_na g kf_244 (by decide) (n1 := 245) rfl fun g => ?_
  refine zT_na g kf_245 (by decide) (n1 := 246) rfl fun g => ?_
  refine zT_na g kf_246 (by decide) (n1 := 247) rfl fun g => ?_
  refine zT_na g kf_247 (by decide) (n1 := 248) rfl fun g => ?_
  refine zT_na g kf_248 (by decide) (n1 := 249) rfl fun g => ?_
  refine zT_na g kf_249 (by decide) (n1 := 250) rfl fun g => ?_
  refine zT_lt ?_
  have g := g.up (a0 := 242) (k := 17) (v := -1) (by decide)
  refine zT_na g kf_250 (by decide) (n1 := 251) rfl fun g => ?_
  refine zT_na g kf_251 (by decide) (n1 := 252) rfl fun g => ?_
  refine zT_na g kf_252 (by decide) (n1 := 253) rfl fun g => ?_
  refine zT_na g kf_253 (by decide) (n1 := 254) rfl fun g => ?_
  refine zT_na g kf_254 (by decide) (n1 := 255) rfl fun g => ?_
  refine zT_na g kf_255 (by decide) (n1 := 256) rfl fun g => ?_
  refine zT_na g kf_256 (by decide) (n1 := 257) rfl fun g => ?_
  refine zT_na g kf_257 (by decide) (n1 := 258) rfl fun g => ?_
  refine zT_na g kf_258 (by decide) (n1 := 259) rfl fun g => ?_
  refine zT_na g kf_259 (by decide) (n1 := 260) rfl fun g => ?_
  refine zT_na g kf_260 (by decide) (n1 := 261) rfl fun g => ?_
  refine zT_na g kf_261 (by decide) (n1 := 262) rfl fun g => ?_
  refine zT_na g kf_262 (by decide) (n1 := 263) rfl fun g => ?_
  refine zT_na g kf_263 (by decide) (n1 := 264) rfl fun g => ?_
  refine zT_na g kf_264 (by decide) (n1 := 265) rfl fun g => ?_
  refine zT_na g kf_265 (by decide) (n1 := 266) rfl fun g => ?_
  refine zT_na g kf_266 (by decide) (n1 := 267) rfl fun g => ?_
  refine zT_na g kf_267 (by decide) (n1 := 268) rfl fun g => ?_
  refine zT_na g kf_268 (by decide) (n1 := 269) rfl fun g => ?_
  refine zT_na g kf_269 (by decide) (n1 := 270) rfl fun g => ?_
  refine zT_na g kf_270 (by decide) (n1 := 271) rfl fun g => ?_
  refine zT_na g kf_271 (by decide) (n1 := 272) rfl fun g => ?_
  refine zT_na g kf_272 (by decide) (n1 := 273) rfl fun g => ?_
  refine zT_na g kf_273 (by decide) (n1 := 274) rfl fun g => ?_
  refine zT_na g kf_274 (by decide) (n1 := 275) rfl fun g => ?_
  refine zT_na g kf_275 (by decide) (n1 := 276) rfl fun g => ?_
  refine zT_na g kf_276 (by decide) (n1 := 277) rfl fun g => ?_
  refine zT_na g kf_277 (by decide) (n1 := 278) rfl fun g => ?_
  refine zT_na g kf_278 (by decide) (n1 := 279) rfl fun g => ?_
  refine zT_na g kf_279 (by decide) (n1 := 280) rfl fun g => ?_
  refine zT_na g kf_280 (by decide) (n1 := 281) rfl fun g => ?_
  refine zT_na g kf_281 (by decide) (n1 := 282) rfl fun g => ?_
  refine zT_na g kf_282 (by decide) (n1 := 283) rfl fun g => ?_
  rw [show (242, 60, 282) :: (242, 59, 281) :: (242, 58, 280) :: (242, 57, 279) :: (242, 56, 278) :: (242, 55, 277) :: (242, 54, 276) :: (242, 52, 275) :: (242, 50, 274) :: (242, 49, 273) :: (242, 47, 272) :: (242, 46, 271) :: (242, 45, 270) :: (242, 43, 269) :: (242, 42, 268) :: (242, 40, 267) :: (242, 39, 266) :: (242, 38, 265) :: (242, 36, 264) :: (242, 35, 263) :: (242, 34, 262) :: (242, 33, 261) :: (242, 32, 260) :: (242, 30, 259) :: (242, 29, 258) :: (242, 28, 257) :: (242, 27, 256) :: (242, 26, 255) :: (242, 25, 254) :: (242, 24, 253) :: (242, 23, 252) :: (242, 22, 251) :: (242, 21, 250) :: (242, 9, 249) :: (242, 8, 248) :: (242, 7, 247) :: (242, 6, 246) :: (242, 5, 245) :: (242, 3, 244) :: (242, 1, 243) :: l = r12 l from rfl, r12_27, r12_9]
  refine zT_kk (by decide) (by decide) kf_256 (zT_lt ?_)
  have w0 : wdP 0 L := fun j hj => absurd hj (Nat.not_lt_zero j)
  refine zT_kk (by decide) (by decide) kf_249 (zT_bd (zT_eq gw_0 (zT_lt ?_)))
  have w1 := w0.up
  have hc := hc.upL (k := 0) (v := e27 (wdR.getD 0 []))
  rw [show ztn (0 : Int32) = 0 from rfl]
  generalize zupL L 249 0 (e27 (wdR.getD 0 [])) = L1 at w1 hc ⊢
  refine zT_kk (by decide) (by decide) kf_249 (zT_bd (zT_eq gw_1 (zT_lt ?_)))
  have w2 := w1.up
  have hc := hc.upL (k := 1) (v := e27 (wdR.getD 1 []))
  rw [show ztn (1 : Int32) = 1 from rfl]
  generalize zupL L1 249 1 (e27 (wdR.getD 1 [])) = L2 at w2 hc ⊢
  refine zT_kk (by decide) (by decide) kf_249 (zT_bd (zT_eq gw_2 (zT_lt ?_)))
  have w3 := w2.up
  have hc := hc.upL (k := 2) (v := e27 (wdR.getD 2 []))
  rw [show ztn (2 : Int32) = 2 from rfl]
  generalize zupL L2 249 2 (e27 (wdR.getD 2 [])) = L3 at w3 hc ⊢
  refine zT_kk (by decide) (by decide) kf_249 (zT_bd (zT_eq gw_3 (zT_lt ?_)))
  have w4 := w3.up
  have hc := hc.upL (k := 3) (v := e27 (wdR.getD 3 []))
  rw [show ztn (3 : Int32) = 3 from rfl]
  generalize zupL L3 249 3 (e27 (wdR.getD 3 [])) = L4 at w4 hc ⊢
  refine zT_kk (by decide) (by decide) kf_249 (zT_bd (zT_eq gw_4 (zT_lt ?_)))
  have w5 := w4.up
  have hc := hc.upL (k := 4) (v := e27 (wdR.getD 4 []))
  rw [show ztn (4 : Int32) = 4 from rfl]
  generalize zupL L4 249 4 (e27 (wdR.getD 4 [])) = L5 at w5 hc ⊢
  refine zT_kk (by decide) (by decide) kf_249 (zT_bd (zT_eq gw_5 (zT_lt ?_)))
  have w6 := w5.up
  have hc := hc.upL (k := 5) (v := e27 (wdR.getD 5 []))
  rw [show ztn (5 : Int32) = 5 from rfl]
  generalize zupL L5 249 5 (e27 (wdR.getD 5 [])) = L6 at w6 hc ⊢
  refine zT_kk (by decide) (by decide) kf_249 (zT_bd (zT_eq gw_6 (zT_lt ?_)))
  have w7 := w6.up
  have hc := hc.upL (k := 6) (v := e27 (wdR.getD 6 []))
  rw [show ztn (6 : Int32) = 6 from rfl]
  generalize zupL L6 249 6 (e27 (wdR.getD 6 [])) = L7 at w7 hc ⊢
  refine zT_kk (by decide) (by decide) kf_249 (zT_bd (zT_eq gw_7 (zT_lt ?_)))
  have w8 := w7.up
  have hc := hc.upL (k := 7) (v := e27 (wdR.getD 7 []))
  rw [show ztn (7 : Int32) = 7 from rfl]
  generalize zupL L7 249 7 (e27 (wdR.getD 7 [])) = L8 at w8 hc ⊢
  refine zT_kk (by decide) (by decide) kf_249 (zT_bd (zT_eq gw_8 (zT_lt ?_)))
  have w9 := w8.up
  have hc := hc.upL (k := 8) (v := e27 (wdR.getD 8 []))
  rw [show ztn (8 : Int32) = 8 from rfl]
  generalize zupL L8 249 8 (e27 (wdR.getD 8 [])) = L9 at w9 hc ⊢
  refine zT_kk (by decide) (by decide) kf_249 (zT_bd (zT_eq gw_9 (zT_lt ?_)))
  have w10 := w9.up
  have hc := hc.upL (k := 9) (v := e27 (wdR.getD 9 []))
  rw [show ztn (9 : Int32) = 9 from rfl]
  generalize zupL L9 249 9 (e27 (wdR.getD 9 [])) = L10 at w10 hc ⊢
  refine zT_kk (by decide) (by decide) kf_249 (zT_bd (zT_eq gw_10 (zT_lt ?_)))
  have w11 := w10.up
  have hc := hc.upL (k := 10) (v := e27 (wdR.getD 10 []))
  rw [show ztn (10 : Int32) = 10 from rfl]
  generalize zupL L10 249 10 (e27 (wdR.getD 10 [])) = L11 at w11 hc ⊢
  refine zT_kk (by decide) (by decide) kf_249 (zT_bd (zT_eq gw_11 (zT_lt ?_)))
  have w12 := w11.up
  have hc := hc.upL (k := 11) (v := e27 (wdR.getD 11 []))
  rw [show ztn (11 : Int32) = 11 from rfl]
  generalize zupL L11 249 11 (e27 (wdR.getD 11 [])) = L12 at w12 hc ⊢
  refine zT_kk (by decide) (by decide) kf_249 (zT_bd (zT_eq gw_12 (zT_lt ?_)))
  have w13 := w12.up
  have hc := hc.upL (k := 12) (v := e27 (wdR.getD 12 []))
  rw [show ztn (12 : Int32) = 12 from rfl]
  generalize zupL L12 249 12 (e27 (wdR.getD 12 [])) = L13 at w13 hc ⊢
  refine zT_kk (by decide) (by decide) kf_249 (zT_bd (zT_eq gw_13 (zT_lt ?_)))
  have w14 := w13.up
  have hc := hc.upL (k := 13) (v := e27 (wdR.getD 13 []))
  rw [show ztn (13 : Int32) = 13 from rfl]
  generalize zupL L13 249 13 (e27 (wdR.getD 13 [])) = L14 at w14 hc ⊢
  refine zT_kk (by decide) (by decide) kf_249 (zT_bd (zT_eq gw_14 (zT_lt ?_)))
  have w15 := w14.up
  have hc := hc.upL (k := 14) (v := e27 (wdR.getD 14 []))
  rw [show ztn (14 : Int32) = 14 from rfl]
  generalize zupL L14 249 14 (e27 (wdR.getD 14 [])) = L15 at w15 hc ⊢
  refine zT_kk (by decide) (by decide) kf_249 (zT_bd (zT_eq gw_15 (zT_lt ?_)))
  have w16 := w15.up
  have hc := hc.upL (k := 15) (v := e27 (wdR.getD 15 []))
  rw [show ztn (15 : Int32) = 15 from rfl]
  generalize zupL L15 249 15 (e27 (wdR.getD 15 [])) = L16 at w16 hc ⊢
  refine zT_kk (by decide) (by decide) kf_249 (zT_bd (zT_eq gw_16 (zT_lt ?_)))
  have w17 := w16.up
  have hc := hc.upL (k := 16) (v := e27 (wdR.getD 16 []))
  rw [show ztn (16 : Int32) = 16 from rfl]
  generalize zupL L16 249 16 (e27 (wdR.getD 16 [])) = L17 at w17 hc ⊢
  refine zT_kk (by decide) (by decide) kf_249 (zT_bd (zT_eq gw_17 (zT_lt ?_)))
  have w18 := w17.up
  have hc := hc.upL (k := 17) (v := e27 (wdR.getD 17 []))
  rw [show ztn (17 : Int32) = 17 from rfl]
  generalize zupL L17 249 17 (e27 (wdR.getD 17 [])) = L18 at w18 hc ⊢
  refine zT_kk (by decide) (by decide) kf_249 (zT_bd (zT_eq gw_18 (zT_lt ?_)))
  have w19 := w18.up
  have hc := hc.upL (k := 18) (v := e27 (wdR.getD 18 []))
  rw [show ztn (18 : Int32) = 18 from rfl]
  generalize zupL L18 249 18 (e27 (wdR.getD 18 [])) = L19 at w19 hc ⊢
  refine zT_kk (by decide) (by decide) kf_249 (zT_bd (zT_eq gw_19 (zT_lt ?_)))
  have w20 := w19.up
  have hc := hc.upL (k := 19) (v := e27 (wdR.getD 19 []))
  rw [show ztn (19 : Int32) = 19 from rfl]
  generalize zupL L19 249 19 (e27 (wdR.getD 19 [])) = L20 at w20 hc ⊢
  exact zT_some ⟨L20, rfl, hc, w20⟩
end RUN
def LF : zAs := r12 lX11
theorem KF_all : KF.take 283 = KF := List.take_of_length_le (by rw [KF_len]; exact Nat.le_refl _)
theorem mdA_61 : ∀ k, 61 ≤ k → mdA k = 0 := fun k hk => by
  obtain ⟨j, rfl⟩ : ∃ j, k = j + 61 := ⟨k - 61, by omega⟩
  rfl
theorem LF_md : zMd (zRl LF) := fun k hk => by
  by_cases c : k < 61
  · exact (by decide +kernel : ∀ k, k < 61 → mdA k ≠ 0 → zRl LF 242 k = mdA k) k c hk
  · exact absurd (mdA_61 k (by omega)) hk
theorem LF_kr : zKR (zRl LF) := by
  unfold zKR zrg
  decide +kernel
theorem LF_xr : zXR (zRl LF) := by
  unfold zXR
  decide +kernel
theorem LF_rt : zRt (zRl LF) := by
  unfold zRt zrg
  decide +kernel
theorem LF_q1 : zRq (zRl LF) 218 := by
  unfold zRq
  decide +kernel
theorem LF_q2 : zRq (zRl LF) 230 := by
  unfold zRq
  decide +kernel
theorem LF_rp : zRp (zRl LF) := by
  unfold zRp
  decide +kernel
theorem LF_rs : zRs (zRl LF) := ⟨LF_md, LF_kr, LF_xr, LF_rt, LF_q1, LF_q2, LF_rp⟩
theorem zfk_61 {tg k : Nat} {kd : Nat × Nat} (h : zfk tg k = some kd) : k < 61 := by
  unfold zfk at h
  split at h <;> first
    | omega
    | cases h
theorem LF_wt1 : (List.range 283).all (fun a => (List.range 61).all (fun k => match zfk (KF.getD a (0, 0)).1 k with
  | none => true
  | some kd => decide (KF[zRl LF a k]? = some kd))) = true := by decide +kernel
theorem LF_wt2 : (List.range 283).all (fun a => if (KF.getD a (0, 0)).1 = 24 then (List.range (KF.getD a (0, 0)).2).all (fun j => decide (KF[zRl LF a j]? = some (6, 8))) else true) = true := by decide +kernel
theorem LF_wt : zWT (zRl LF) KF := by
  refine ⟨⟨rfl, rfl⟩, fun a tg n ha k kd hk => ?_, fun a n ha j hj => ?_⟩
  · have h1 := KF_lt ha
    have h2 := List.all_eq_true.mp (List.all_eq_true.mp LF_wt1 a (List.mem_range.2 h1)) k (List.mem_range.2 (zfk_61 hk))
    rw [List.getD_eq_getElem?_getD, ha] at h2
    simp only [Option.getD_some, hk, decide_eq_true_eq] at h2
    exact h2
  · have h1 := KF_lt ha
    have h2 := List.all_eq_true.mp LF_wt2 a (List.mem_range.2 h1)
    rw [List.getD_eq_getElem?_getD, ha] at h2
    simp only [Option.getD_some, if_true] at h2
    exact of_decide_eq_true (List.all_eq_true.mp h2 j (List.mem_range.2 hj))
theorem zSt0 {M1 M : zM} (hc : clR 218 ru0 none M1) (h10 : M1 2 10 = -1) (h4 : M1 13 4 = 0) (h5 : M1 13 5 = 0) (h6 : M1 13 6 = 0) (h7 : M1 13 7 = 0) (g1 : zag (fun b k => (218 ≤ b ∧ b < 242) ∨ (b = 2 ∧ k = 10) ∨ (b = 13 ∧ 4 ≤ k)) (fun _ _ => 0) M1) (e : M = zup (zup M1 242 17 (-1)) 256 0 7) : zOut (zRl LF) M 0 0 := by
  have f : ∀ b k, ¬ (b = 242 ∧ k = 17) → ¬ (b = 256 ∧ k = 0) → M b k = M1 b k := fun b k a1 a2 => by rw [e, zup_o a2, zup_o a1]
  have z : ∀ b k, ¬ (218 ≤ b ∧ b < 242) → ¬ (b = 2 ∧ k = 10) → ¬ (b = 13 ∧ 4 ≤ k) → ¬ (b = 242 ∧ k = 17) → ¬ (b = 256 ∧ k = 0) → M b k = 0 := fun b k a1 a2 a3 a4 a5 => by
    rw [f b k a4 a5]
    exact g1 b k (by omega)
  have n0 : (0 : Int32) = nI 0 := rfl
  refine ⟨ru0, 218, 0, 0, 0, 0, LF_rs, by decide +kernel, by decide +kernel, Or.inl rfl, ⟨Or.inl rfl, by decide, dP_1 (show dO [(1, 3)] 0 by simp [dO]), dP_1 (show dO [(0, 0)] 0 by simp [dO])⟩, ?_, ?_, z 242 18 (by omega) (by omega) (by omega) (by omega) (by omega), ?_, ?_, ?_, ?_, ?_, ?_, ?_⟩
  · exact clR.cr LF_q1 (hc.eq (fun k _ _ => f 218 k (by omega) (by omega)) (fun b k b1 b2 => f b k (by omega) (by omega)))
  · refine ⟨by omega, z 253 0 (by omega) (by omega) (by omega) (by omega) (by omega), z 254 0 (by omega) (by omega) (by omega) (by omega) (by omega), z 255 0 (by omega) (by omega) (by omega) (by omega) (by omega), by rw [e, zup_same]; rfl, z 257 0 (by omega) (by omega) (by omega) (by omega) (by omega), ⟨dP_1 (show dO [(1, 3)] 0 by simp [dO]), Or.inl ⟨?_, rfl⟩⟩, ⟨dP_1 (show dO [(0, 0)] 0 by simp [dO]), Or.inl ⟨?_, rfl⟩⟩⟩
    · rw [z 258 _ (by omega) (by omega) (by omega) (by omega) (by omega), z 259 _ (by omega) (by omega) (by omega) (by omega) (by omega)]
    · rw [z 258 _ (by omega) (by omega) (by omega) (by omega) (by omega), z 259 _ (by omega) (by omega) (by omega) (by omega) (by omega)]
  · refine ⟨by omega, by rw [f _ _ (by omega) (by omega)]; exact h4, z 270 40 (by omega) (by omega) (by omega) (by omega) (by omega), ?_, ?_, ?_, fun h hh => absurd hh (Nat.not_lt_zero h)⟩
    · rw [f 13 5 (by omega) (by omega), h5, z 270 41 (by omega) (by omega) (by omega) (by omega) (by omega)]
    · rw [f 13 6 (by omega) (by omega), h6, z 270 42 (by omega) (by omega) (by omega) (by omega) (by omega)]
    · rw [f 13 7 (by omega) (by omega), h7, z 270 43 (by omega) (by omega) (by omega) (by omega) (by omega)]
  · exact ⟨by omega, z 270 40 (by omega) (by omega) (by omega) (by omega) (by omega), ⟨0, Nat.le_refl _, z 270 43 (by omega) (by omega) (by omega) (by omega) (by omega)⟩, fun _ => 0, fun _ => 0, 0, fun h hh => absurd hh (Nat.not_lt_zero h), z 270 41 (by omega) (by omega) (by omega) (by omega) (by omega), Nat.le_refl _⟩
  · exact ⟨by omega, by omega, z 242 48 (by omega) (by omega) (by omega) (by omega) (by omega), z 18 4 (by omega) (by omega) (by omega) (by omega) (by omega), z 18 3 (by omega) (by omega) (by omega) (by omega) (by omega), fun j hj => absurd hj (Nat.not_lt_zero j)⟩
  · exact fun s _ => Or.inl ⟨z 21 s (by omega) (by omega) (by omega) (by omega) (by omega), z 281 s (by omega) (by omega) (by omega) (by omega) (by omega)⟩
  · exact ⟨0, by omega, z 207 6 (by omega) (by omega) (by omega) (by omega) (by omega), z 242 53 (by omega) (by omega) (by omega) (by omega) (by omega), fun i hi => absurd hi (Nat.not_lt_zero i)⟩
  · exact ⟨0, by omega, z 3 1 (by omega) (by omega) (by omega) (by omega) (by omega), z 242 2 (by omega) (by omega) (by omega) (by omega) (by omega), fun i hi => absurd hi (Nat.not_lt_zero i)⟩
  · rw [f 2 10 (by omega) (by omega), h10, e, zup_o (by omega), zup_same]

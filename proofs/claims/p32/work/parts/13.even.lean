/-- the rules: street, turns, sharing, every, seed; the paying law, the earning law -/
abbrev zRu := (Int32 × Int32 × Int32 × Int32 × Int32) × zPr × zPr
abbrev ruS (ru : zRu) : Int32 := ru.1.1
abbrev ruT (ru : zRu) : Int32 := ru.1.2.1
abbrev ruH (ru : zRu) : Int32 := ru.1.2.2.1
abbrev ruE (ru : zRu) : Int32 := ru.1.2.2.2.1
abbrev ruD (ru : zRu) : Int32 := ru.1.2.2.2.2
abbrev ruP (ru : zRu) : zPr := ru.2.1
abbrev ruQ (ru : zRu) : zPr := ru.2.2
def ruK (ru : zRu) (k : Nat) : zPr := if k = 0 then ruP ru else ruQ ru
def zOk (ru : zRu) : Prop := (ruH ru = 0 ∨ ruH ru = 1 ∨ ruH ru = 2) ∧ 0 < ruE ru ∧ dP (ruP ru) ∧ dP (ruQ ru)
/-- the reference's side l holds the rules -/
def zMs (M : zM) (l : Nat) (ru : zRu) : Prop := l < 2 ∧ M 253 l = ruS ru ∧ M 254 l = ruT ru ∧ M 255 l = ruH ru ∧ M 256 l = ruE ru ∧ M 257 l = ruD ru ∧ zMp M (2 * l) 0 (ruP ru) ∧ zMp M (2 * l + 1) 1 (ruQ ru)
theorem zMs.eq {M M1 : zM} {l : Nat} {ru : zRu} (h : zMs M l ru) (he : ∀ a k, 253 ≤ a → a ≤ 266 → M1 a k = M a k) : zMs M1 l ru := by
  obtain ⟨h0, h1, h2, h3, h4, h5, h6, h7⟩ := h
  exact ⟨h0, by rw [he 253 l (by omega) (by omega)]; exact h1, by rw [he 254 l (by omega) (by omega)]; exact h2, by rw [he 255 l (by omega) (by omega)]; exact h3, by rw [he 256 l (by omega) (by omega)]; exact h4, by rw [he 257 l (by omega) (by omega)]; exact h5, h6.eq (fun a k q1 q2 => he a k (by omega) q2), h7.eq (fun a k q1 q2 => he a k (by omega) q2)⟩
theorem zMs.law {M : zM} {l k : Nat} {ru : zRu} (h : zMs M l ru) (hk : k < 2) : zMp M (2 * l + k) k (ruK ru k) := by
  rcases (show k = 0 ∨ k = 1 by omega) with rfl | rfl
  · exact h.2.2.2.2.2.2.1
  · exact h.2.2.2.2.2.2.2
def tellF (n : Nat) (ru : zRu) (w : Nat → Int32) (k h : Nat) (most : Int32) : Int32 := clampF most (evP (vF n (ruS ru) (ruD ru) w h) (ruK ru k))
theorem nI_inj {a b : Nat} (ha : a < 2 ^ 31) (hb : b < 2 ^ 31) (h : nI a = nI b) : a = b := by
  rw [← nI_clamp ha, ← nI_clamp hb, h]
theorem X12_tellsBy {R : zR} {M : zM} (hR : zMd R) {n h l k : Nat} {ru : zRu} (hs : zMs M l ru) (hv : M 242 18 = nI l) (hn : n ≤ 10) (hw : M 271 40 = nI n) (hh : h < n) (hk : k < 2) {plain most : Int32} (hm : 0 ≤ most) (hd : ruK ru k = dflt k → (if plain ≤ most then plain else most) = tellF n ru (M 271) k h most) : zT (f_X12_tellsBy R M 242 (nI k) (nI h) plain most) (fun r => r.1 = tellF n ru (M 271) k h most ∧ zag tlA M r.2) := by
  have hl := hs.1
  unfold f_X12_tellsBy
  rw [hv, two_nI hl hk, ztn_nI (by omega), hR.at (k := 29) (b := 258) rfl (by decide), hR.at (k := 30) (b := 259) rfl (by decide), hR.at (k := 42) (b := 268) rfl (by decide)]
  have hz := zin_nI (k := 2 * l + k) (n := 4) (by omega) (by omega)
  refine zT_ck hz (zT_ck hz ?_)
  obtain ⟨hdP, hlaw⟩ := hs.law hk
  rcases hlaw with ⟨e1, e2⟩ | ⟨e0, f, e1, e2, e3, e4⟩
  · refine zT_if1 e1 ?_
    rw [← hd e2]
    refine zT_if (fun q => ?_) (fun q => ?_)
    · rw [if_pos q]
      exact zT_some ⟨rfl, zag.rf⟩
    · rw [if_neg q]
      exact zT_some ⟨rfl, zag.rf⟩
  have hlen : 0 < (ruK ru k).length := by
    rcases hp : ruK ru k with _ | ⟨a, b⟩
    · exact absurd hp e0
    · simp
  refine zT_if0 ?_ ?_
  · rw [e1, e2]
    intro q
    have := nI_inj (by omega) (by omega) q
    omega
  obtain ⟨_, s1, s2, s3, s4, s5, _, _⟩ := id hs
  rw [e1, e2]
  have b0 : ∀ M1 : zM, M1 271 = M 271 → M1 242 18 = nI l → M1 253 = M 253 → f_X12_beside R M1 242 (nI h) (-1 : Int32) = some (shF (M 271) (leftF n (ruS ru) h)) := fun M1 q1 q2 q3 => by
    rw [X12_left hR hn (by rw [q1]; exact hw) hh hl q2, q1, q3, s1]
  have b1 : ∀ M1 : zM, M1 271 = M 271 → M1 242 18 = nI l → M1 253 = M 253 → f_X12_beside R M1 242 (nI h) (1 : Int32) = some (shF (M 271) (rightF n (ruS ru) h)) := fun M1 q1 q2 q3 => by
    rw [X12_right hR hn (by rw [q1]; exact hw) hh hl q2, q1, q3, s1]
  have b2 : ∀ M1 : zM, M1 271 = M 271 → f_X12_shownOf R M1 242 (nI h) = some (shF (M 271) h) := fun M1 q1 => by
    rw [X12_shownOf hR (by omega), q1]
  have b3 : ∀ M1 : zM, M1 271 = M 271 → M1 242 18 = nI l → M1 253 = M 253 → f_X12_gapOf R M1 242 (nI h) = some (gapF n (ruS ru) (M 271) h) := fun M1 q1 q2 q3 => by
    rw [X12_gapOf hR hn (by rw [q1]; exact hw) hh hl q2, q1, q3, s1]
  refine zT_bd (zT_eq (b0 M rfl hv rfl) (zT_lt (zT_bd (zT_eq (b1 _ (zup_r (by decide)) (by rw [zup_a (by decide)]; exact hv) (zup_r (by decide))) (zT_lt (zT_bd (zT_eq (b2 _ ?_) (zT_lt (zT_bd (zT_eq (b3 _ ?_ ?_ ?_) (zT_lt (zT_lt ?_))))))))))))
  · rw [zup_r (by decide), zup_r (by decide)]
  · rw [zup_r (by decide), zup_r (by decide), zup_r (by decide)]
  · rw [zup_r (by decide), zup_r (by decide), zup_r (by decide)]; exact hv
  · rw [zup_r (by decide), zup_r (by decide), zup_r (by decide)]
  generalize hM5 : zup (zup (zup (zup M 268 (ztn 0) (shF (M 271) (leftF n (ruS ru) h))) 268 (ztn 1) (shF (M 271) (rightF n (ruS ru) h))) 268 (ztn 2) (shF (M 271) h)) 268 (ztn 3) (gapF n (ruS ru) (M 271) h) = M5
  have g5 : zag tlA M M5 := by
    rw [← hM5]
    exact (((zag.rf.up (Or.inl rfl)).up (Or.inl rfl)).up (Or.inl rfl)).up (Or.inl rfl)
  have o5 : ∀ a k, ¬ tlA a k → M5 a k = M a k := g5
  rw [hR.at (k := 46) (b := 271) rfl (by decide)]
  have c42 : M5 271 (ztn 42) = M 271 42 := o5 _ _ (by unfold tlA; omega)
  rw [c42]
  refine zT_ck ?_ ?_
  · rw [zup_r (by decide), o5 _ _ (by unfold tlA; omega), hv]
    exact zin_nI hl (by omega)
  have d18 : zup M5 268 (ztn 4) (M 271 42) 242 18 = nI l := by rw [zup_r (by decide), o5 _ _ (by unfold tlA; omega)]; exact hv
  have d271 : zup M5 268 (ztn 4) (M 271 42) 271 (ztn 42) = M 271 42 := by rw [zup_r (by decide)]; exact c42
  have d257 : zup M5 268 (ztn 4) (M 271 42) 257 l = ruD ru := by rw [zup_r (by decide), o5 _ _ (by unfold tlA; omega)]; exact s5
  rw [d18, d271, hR.at (k := 28) (b := 257) rfl (by decide), ztn_nI (by omega), d257]
  refine zT_bd (zT_eq (X12_lot _ _) (zT_lt (zT_lt (zT_lt ?_))))
  generalize hM6 : zup (zup M5 268 (ztn 4) (M 271 42)) 268 (ztn 5) (lotF (ruD ru) ((20 : Int32) * M 271 42 + nI h)) = M6
  have g6 : zag tlA M M6 := by
    rw [← hM6]
    exact (g5.up (Or.inl rfl)).up (Or.inl rfl)
  have c41 : M6 271 (ztn 41) = M 271 41 := g6 _ _ (by unfold tlA; omega)
  rw [c41]
  generalize hM7 : zup (zup M6 268 (ztn 6) (M 271 41)) 242 44 0 = M7
  have g7 : zag tlA M M7 := by
    rw [← hM7]
    exact (g6.up (Or.inl rfl)).up (Or.inr (Or.inr ⟨rfl, rfl⟩))
  have v7 : ∀ k, k < 7 → M7 268 k = vF n (ruS ru) (ruD ru) (M 271) h k := by
    intro k hk
    rw [← hM7, ← hM6, ← hM5]
    simp only [show ztn 0 = 0 from rfl, show ztn 1 = 1 from rfl, show ztn 2 = 2 from rfl, show ztn 3 = 3 from rfl, show ztn 4 = 4 from rfl, show ztn 5 = 5 from rfl, show ztn 6 = 6 from rfl]
    rcases (show k = 0 ∨ k = 1 ∨ k = 2 ∨ k = 3 ∨ k = 4 ∨ k = 5 ∨ k = 6 by omega) with rfl | rfl | rfl | rfl | rfl | rfl | rfl
    all_goals simp (disch := omega) only [zup_a, zup_k, zup_same, vF]
  have z7 : M7 242 44 = 0 := by rw [← hM7]; exact zup_same
  have gg7 : ∀ a k, 260 ≤ a → a ≤ 266 → M7 a k = M a k := fun a k q1 q2 => g7 a k (by unfold tlA; omega)
  have := X12_tells hR hm (ruK ru k) (ruK ru k) f M7 (M := M7) hdP (zBs.eq gg7 _ _ e4) e3 zag.rf z7 rfl rfl
  refine zT_w this ?_
  rintro r ⟨q1, q2⟩
  rw [vF_congr v7 hdP] at q1
  exact ⟨q1, g7.tr q2⟩

/-! THE GHOST: the functions of the class at cf18eaa, where they differ -/
def b_X6_copy_34 (R : zR) (M : zM) (a0 : Nat) (a1 : Nat) (x2 : Int32) : Option ((Int32 × zM) ⊕ ((zM))) :=
  if (M a0 4) ≤ x2 then (
    some (.inr M)
  ) else (
    if (10 : Int32) ≤ x2 then (
      some (.inr M)
    ) else (
      zck (zin x2 10) <|
      zck (zin x2 10) <|
      zlt (zup M (R a0 0) (ztn x2) (M (R a1 0) (ztn x2))) fun M9 =>
      zck (zin x2 10) <|
      zck (zin x2 10) <|
      zlt (zup M9 (R a0 1) (ztn x2) (M9 (R a1 1) (ztn x2))) fun M12 =>
      zck (zin x2 10) <|
      zck (zin x2 10) <|
      zlt (zup M12 (R a0 2) (ztn x2) (M12 (R a1 2) (ztn x2))) fun M15 =>
      zck (zin x2 10) <|
      zck (zin x2 10) <|
      zlt (zup M15 (R a0 3) (ztn x2) (M15 (R a1 3) (ztn x2))) fun M18 =>
      some (.inl ((x2 + 1), M18))
    )
  )
def f_X6_copy (R : zR) (M : zM) (a0 : Nat) (a1 : Nat) : Option (zM) :=
  zlt (zup M a0 4 (M a1 4)) fun M1 =>
  zlt (zup M1 a0 5 (M1 a1 5)) fun M2 =>
  zlt (zup M2 a0 6 (M2 a1 6)) fun M3 =>
  zlt (zup M3 a0 7 (M3 a1 7)) fun M4 =>
  zbd (zloop zN (fun v => b_X6_copy_34 R v.2 a0 a1 v.1) ((0 : Int32), M4)) fun e19 =>
  some e19
def f_X6_pay (R : zR) (M : zM) (a0 : Nat) (x1 : Int32) (x2 : Int32) : Option (zM) :=
  zbd (f_X6_has M a0 x1) fun r1 =>
  if r1 = 0 then (
    some M
  ) else (
    zck (zin x1 10) <|
    zck (zin x1 10) <|
    zlt (zup M (R a0 0) (ztn x1) ((M (R a0 0) (ztn x1)) - x2)) fun M6 =>
    zlt (zup M6 a0 5 ((M6 a0 5) + x2)) fun M7 =>
    zck (zin x1 10) <|
    zlt (zup M7 (R a0 2) (ztn x1) x2) fun M9 =>
    zck (zin x1 10) <|
    zck (zin x1 10) <|
    zlt (zup M9 (R a0 3) (ztn x1) ((M9 (R a0 3) (ztn x1)) + x2)) fun M12 =>
    some M12
  )
def b_X7_payByTurns_2 (R : zR) (M : zM) (a0 : Nat) (a1 : Nat) (x2 : Int32) (x3 : Int32) : Option ((Int32 × zM) ⊕ ((zM))) :=
  if (M a1 4) ≤ x3 then (
    some (.inr M)
  ) else (
    zbd2 (f_X7_wanted R M a0 a1 x3) fun r2 M3 =>
    zbd (f_X6_pay R M3 a1 x3 r2) fun M5 =>
    some (.inl ((x3 + 1), M5))
  )
def b_X7_payByTurns_29 (R : zR) (M : zM) (a0 : Nat) (a1 : Nat) (x2 : Int32) (x3 : Int32) : Option ((Int32 × zM) ⊕ ((zM))) :=
  if x2 ≤ x3 then (
    some (.inr M)
  ) else (
    zbd2 (f_X7_wanted R M a0 a1 x3) fun r9 M10 =>
    zbd (f_X6_pay R M10 a1 x3 r9) fun M12 =>
    some (.inl ((x3 + 1), M12))
  )
def f_X7_payByTurns (R : zR) (M : zM) (a0 : Nat) (a1 : Nat) (x2 : Int32) : Option (zM) :=
  zbd (zloop zN (fun v => b_X7_payByTurns_2 R v.2 a0 a1 x2 v.1) (x2, M)) fun e7 =>
  zbd (zloop zN (fun v => b_X7_payByTurns_29 R v.2 a0 a1 x2 v.1) ((0 : Int32), e7)) fun e14 =>
  some e14
def b_X6_mostPaying_4 (R : zR) (M : zM) (a0 : Nat) (x1 : Int32) (x2 : Int32) : Option ((Int32 × Int32) ⊕ ((Int32))) :=
  if (10 : Int32) ≤ x2 then (
    some (.inr x1)
  ) else (
    zbd (f_X6_has M a0 x2) fun r2 =>
    if r2 = 0 then (
      some (.inr x1)
    ) else (
      zck (zin x2 10) <|
      zck (zin x1 10) <|
      if (M (R a0 3) (ztn x2)) ≤ (M (R a0 3) (ztn x1)) then (
        some (.inl (x1, (x2 + 1)))
      ) else (
        some (.inl (x2, (x2 + 1)))
      )
    )
  )
def f_X6_mostPaying (R : zR) (M : zM) (a0 : Nat) : Option (Int32) :=
  zbd (zloop zN (fun v => b_X6_mostPaying_4 R M a0 v.1 v.2) ((0 : Int32), (1 : Int32))) fun e8 =>
  some e8
def b_X6_sharePot_108 (R : zR) (M : zM) (a0 : Nat) (x2 : Int32) : Option ((Int32 × zM) ⊕ ((zM))) :=
  if (10 : Int32) ≤ x2 then (
    some (.inr M)
  ) else (
    zbd (f_X6_has M a0 x2) fun r9 =>
    if r9 = 0 then (
      some (.inr M)
    ) else (
      zck (zin x2 10) <|
      zlt (zup M (R a0 3) (ztn x2) (0 : Int32)) fun M13 =>
      some (.inl ((x2 + 1), M13))
    )
  )
def j_X6_sharePot_94 (R : zR) (M : zM) (a0 : Nat) (b0 : Nat) (s1 : Int32) : Option (zM) :=
  zbd (f_X6_earn R M b0 s1 (M a0 5)) fun M5 =>
  zlt (zup M5 a0 5 (0 : Int32)) fun M7 =>
  zbd (zloop zN (fun v => b_X6_sharePot_108 R v.2 a0 v.1) ((0 : Int32), M7)) fun e14 =>
  zlt (zup e14 a0 7 ((e14 a0 7) + (1 : Int32))) fun M15 =>
  some M15
def b_X6_sharePot_24 (R : zR) (M : zM) (a0 : Nat) (x2 : Int32) (x3 : Int32) : Option ((Int32 × zM) ⊕ ((zM))) :=
  if (10 : Int32) ≤ x3 then (
    some (.inr M)
  ) else (
    zbd (f_X6_has M a0 x3) fun r20 =>
    if r20 = 0 then (
      some (.inr M)
    ) else (
      zck (zin x3 10) <|
      zck (zin x3 10) <|
      zlt (zup M (R a0 0) (ztn x3) ((M (R a0 0) (ztn x3)) + x2)) fun M25 =>
      some (.inl ((x3 + 1), M25))
    )
  )
def f_X6_sharePot (R : zR) (M : zM) (a0 : Nat) (x1 : Int32) : Option (zM) :=
  if 0 < (M a0 4) then (
    if x1 = 0 then (
      zck (znz (M a0 4)) <|
      zbd (zloop zN (fun v => b_X6_sharePot_24 R v.2 a0 ((M a0 5) / (M a0 4)) v.1) ((0 : Int32), M)) fun e26 =>
      zlt (zup e26 a0 5 ((e26 a0 5) - (((M a0 5) / (M a0 4)) * (e26 a0 4)))) fun M27 =>
      zbd (zloop zN (fun v => b_X6_sharePot_108 R v.2 a0 v.1) ((0 : Int32), M27)) fun e28 =>
      zlt (zup e28 a0 7 ((e28 a0 7) + (1 : Int32))) fun M29 =>
      some M29
    ) else (
      if x1 = (1 : Int32) then (
        zbd (f_X6_mostPaying R M a0) fun r16 =>
        j_X6_sharePot_94 R M a0 a0 r16
      ) else (
        zck (znz (M a0 4)) <|
        j_X6_sharePot_94 R M a0 a0 ((M a0 7) - (M a0 7) / (M a0 4) * (M a0 4))
      )
    )
  ) else (
    some M
  )
def b_X7_payAtOnce_2 (R : zR) (M : zM) (a0 : Nat) (a1 : Nat) (x2 : Int32) : Option ((Int32 × zM) ⊕ ((zM))) :=
  if (M a1 4) ≤ x2 then (
    some (.inr M)
  ) else (
    if (10 : Int32) ≤ x2 then (
      some (.inr M)
    ) else (
      zbd2 (f_X7_wanted R M a0 a1 x2) fun r3 M4 =>
      zck (zin x2 10) <|
      zlt (zup M4 (R a0 4) (ztn x2) r3) fun M7 =>
      some (.inl ((x2 + 1), M7))
    )
  )
def b_X7_payAtOnce_39 (R : zR) (M : zM) (a0 : Nat) (a1 : Nat) (x2 : Int32) : Option ((Int32 × zM) ⊕ ((zM))) :=
  if (M a1 4) ≤ x2 then (
    some (.inr M)
  ) else (
    if (10 : Int32) ≤ x2 then (
      some (.inr M)
    ) else (
      zck (zin x2 10) <|
      zbd (f_X6_pay R M a1 x2 (M (R a0 4) (ztn x2))) fun M12 =>
      some (.inl ((x2 + 1), M12))
    )
  )
def f_X7_payAtOnce (R : zR) (M : zM) (a0 : Nat) (a1 : Nat) : Option (zM) :=
  zbd (zloop zN (fun v => b_X7_payAtOnce_2 R v.2 a0 a1 v.1) ((0 : Int32), M)) fun e8 =>
  zbd (zloop zN (fun v => b_X7_payAtOnce_39 R v.2 a0 a1 v.1) ((0 : Int32), e8)) fun e14 =>
  some e14
def j_X7_evening_26 (R : zR) (M : zM) (a0 : Nat) (a1 : Nat) (x2 : Int32) : Option (zM) :=
  zlt (zup M a1 6 ((M a1 6) + (1 : Int32))) fun M6 =>
  if (M6 a0 9) ≤ 0 then (
    some M6
  ) else (
    zck (znz (M6 a0 9)) <|
    if ((M6 a1 6) - (M6 a1 6) / (M6 a0 9) * (M6 a0 9)) = 0 then (
      zbd (f_X6_sharePot R M6 a1 x2) fun M10 =>
      some M10
    ) else (
      some M6
    )
  )
def f_X7_evening (R : zR) (M : zM) (a0 : Nat) (a1 : Nat) (x2 : Int32) : Option (zM) :=
  zbd (f_X7_earn R M a0 a1) fun M1 =>
  if (M1 a0 7) = 0 then (
    zbd (f_X7_payAtOnce R M1 a0 a1) fun M4 =>
    j_X7_evening_26 R M4 a0 a1 x2
  ) else (
    zbd (f_X7_payByTurns R M1 a0 a1 (0 : Int32)) fun M12 =>
    j_X7_evening_26 R M12 a0 a1 x2
  )
def b_X7_evenings_3 (R : zR) (M : zM) (a0 : Nat) (a1 : Nat) (x2 : Int32) (x3 : Int32) (x4 : Int32) : Option ((Int32 × zM) ⊕ ((zM))) :=
  if x2 ≤ x4 then (
    some (.inr M)
  ) else (
    zbd (f_X7_evening R M a0 a1 x3) fun M2 =>
    some (.inl ((x4 + 1), M2))
  )
def f_X7_evenings (R : zR) (M : zM) (a0 : Nat) (a1 : Nat) (x2 : Int32) (x3 : Int32) : Option (zM) :=
  zbd (zloop zN (fun v => b_X7_evenings_3 R v.2 a0 a1 x2 x3 v.1) ((0 : Int32), M)) fun e4 =>
  some e4
def f_X6_copyHouse (R : zR) (M : zM) (a0 : Nat) (x1 : Int32) (x2 : Int32) : Option (zM) :=
  if x1 < 0 then (
    some M
  ) else (
    if (10 : Int32) ≤ x1 then (
      some M
    ) else (
      if x2 < 0 then (
        some M
      ) else (
        if x2 < (10 : Int32) then (
          zck (zin x1 10) <|
          zck (zin x2 10) <|
          zlt (zup M (R a0 0) (ztn x2) (M (R a0 0) (ztn x1))) fun M7 =>
          zck (zin x1 10) <|
          zck (zin x2 10) <|
          zlt (zup M7 (R a0 1) (ztn x2) (M7 (R a0 1) (ztn x1))) fun M10 =>
          zck (zin x1 10) <|
          zck (zin x2 10) <|
          zlt (zup M10 (R a0 2) (ztn x2) (M10 (R a0 2) (ztn x1))) fun M13 =>
          zck (zin x1 10) <|
          zck (zin x2 10) <|
          zlt (zup M13 (R a0 3) (ztn x2) (M13 (R a0 3) (ztn x1))) fun M16 =>
          some M16
        ) else (
          some M
        )
      )
    )
  )
def b_X6_insert_25 (R : zR) (M : zM) (a0 : Nat) (x1 : Int32) (x2 : Int32) (x3 : Int32) : Option ((Int32 × zM) ⊕ ((zM))) :=
  if x3 ≤ x1 then (
    some (.inr M)
  ) else (
    zbd (f_X6_copyHouse R M a0 (x3 - (1 : Int32)) x3) fun M7 =>
    some (.inl ((x3 + (-1)), M7))
  )
def f_X6_insert (R : zR) (M : zM) (a0 : Nat) (x1 : Int32) (x2 : Int32) : Option (zM) :=
  if x1 < 0 then (
    some M
  ) else (
    if (M a0 4) < x1 then (
      some M
    ) else (
      zbd (f_X6_isFull M a0) fun r3 =>
      if r3 = 0 then (
        zbd (zloop zN (fun v => b_X6_insert_25 R v.2 a0 x1 x2 v.1) ((M a0 4), M)) fun e9 =>
        zlt (zup e9 a0 4 ((e9 a0 4) + (1 : Int32))) fun M10 =>
        zck (zin x1 10) <|
        zlt (zup M10 (R a0 0) (ztn x1) x2) fun M12 =>
        zck (zin x1 10) <|
        zlt (zup M12 (R a0 1) (ztn x1) (0 : Int32)) fun M14 =>
        zck (zin x1 10) <|
        zlt (zup M14 (R a0 2) (ztn x1) (0 : Int32)) fun M16 =>
        zck (zin x1 10) <|
        zlt (zup M16 (R a0 3) (ztn x1) (0 : Int32)) fun M18 =>
        some M18
      ) else (
        some M
      )
    )
  )
def b_X6_begin_22 (R : zR) (M : zM) (a0 : Nat) (a1 : Nat) (x2 : Int32) : Option ((Int32 × zM) ⊕ ((zM))) :=
  if (M a1 5) ≤ x2 then (
    some (.inr M)
  ) else (
    if (10 : Int32) ≤ x2 then (
      some (.inr M)
    ) else (
      zck (zin x2 10) <|
      zbd (f_X6_insert R M a0 x2 (M (R a1 2) (ztn x2))) fun M8 =>
      some (.inl ((x2 + 1), M8))
    )
  )
def f_X6_begin (R : zR) (M : zM) (a0 : Nat) (a1 : Nat) : Option (zM) :=
  zlt (zup M a0 4 (0 : Int32)) fun M1 =>
  zlt (zup M1 a0 5 (0 : Int32)) fun M2 =>
  zlt (zup M2 a0 6 (0 : Int32)) fun M3 =>
  zlt (zup M3 a0 7 (0 : Int32)) fun M4 =>
  zbd (zloop zN (fun v => b_X6_begin_22 R v.2 a0 a1 v.1) ((0 : Int32), M4)) fun e10 =>
  some e10
def b_X6_remove_13 (R : zR) (M : zM) (a0 : Nat) (x2 : Int32) : Option ((Int32 × zM) ⊕ ((zM))) :=
  if (10 : Int32) ≤ x2 then (
    some (.inr M)
  ) else (
    zbd (f_X6_has M a0 x2) fun r5 =>
    if r5 = 0 then (
      some (.inr M)
    ) else (
      zbd (f_X6_copyHouse R M a0 x2 (x2 - (1 : Int32))) fun M8 =>
      some (.inl ((x2 + 1), M8))
    )
  )
def f_X6_remove (R : zR) (M : zM) (a0 : Nat) (x1 : Int32) : Option (zM) :=
  zbd (f_X6_has M a0 x1) fun r1 =>
  if r1 = 0 then (
    some M
  ) else (
    zbd (zloop zN (fun v => b_X6_remove_13 R v.2 a0 v.1) ((x1 + (1 : Int32)), M)) fun e10 =>
    zlt (zup e10 a0 4 ((e10 a0 4) - (1 : Int32))) fun M11 =>
    some M11
  )
def f_X6_merge (R : zR) (M : zM) (a0 : Nat) (x1 : Int32) (x2 : Int32) : Option (zM) :=
  zbd (f_X6_has M a0 x1) fun r1 =>
  if r1 = 0 then (
    some M
  ) else (
    zbd (f_X6_has M a0 x2) fun r4 =>
    if r4 = 0 then (
      some M
    ) else (
      zck (zin x1 10) <|
      zck (zin x2 10) <|
      zck (zin x1 10) <|
      zlt (zup M (R a0 0) (ztn x1) ((M (R a0 0) (ztn x1)) + (M (R a0 0) (ztn x2)))) fun M10 =>
      zck (zin x1 10) <|
      zck (zin x2 10) <|
      zck (zin x1 10) <|
      zlt (zup M10 (R a0 1) (ztn x1) ((M10 (R a0 1) (ztn x1)) + (M10 (R a0 1) (ztn x2)))) fun M14 =>
      zck (zin x1 10) <|
      zck (zin x2 10) <|
      zck (zin x1 10) <|
      zlt (zup M14 (R a0 2) (ztn x1) ((M14 (R a0 2) (ztn x1)) + (M14 (R a0 2) (ztn x2)))) fun M18 =>
      zck (zin x1 10) <|
      zck (zin x2 10) <|
      zck (zin x1 10) <|
      zlt (zup M18 (R a0 3) (ztn x1) ((M18 (R a0 3) (ztn x1)) + (M18 (R a0 3) (ztn x2)))) fun M22 =>
      zbd (f_X6_remove R M22 a0 x2) fun M23 =>
      some M23
    )
  )
def b_X0_findStart_8 (R : zR) (M : zM) (a0 : Nat) (a1 : Nat) (a2 : Nat) (x3 : Int32) (x4 : Int32) : Option ((Int32 × zM) ⊕ ((zM))) :=
  if (M a2 4) ≤ x4 then (
    some (.inr M)
  ) else (
    zbd (f_X6_copy R M (R a0 0) a2) fun M3 =>
    zbd (f_X7_payByTurns R M3 a1 (R a0 0) x4) fun M5 =>
    zbd (f_X6_purseOf R M5 (R a0 0) x3) fun r7 =>
    zbd (f_X0_better M5 a0 r7 (0 : Int32) x4) fun M9 =>
    some (.inl ((x4 + 1), M9))
  )
def f_X0_findStart (R : zR) (M : zM) (a0 : Nat) (a1 : Nat) (a2 : Nat) (x3 : Int32) : Option (zM) :=
  zlt (zup M a0 3 (-1 : Int32)) fun M1 =>
  zbd (zloop zN (fun v => b_X0_findStart_8 R v.2 a0 a1 a2 x3 v.1) ((0 : Int32), M1)) fun e11 =>
  some e11
def f_X0_lessPaid (R : zR) (M : zM) (a0 : Nat) (a1 : Nat) (a2 : Nat) (x3 : Int32) (x4 : Int32) (x5 : Int32) : Option (Int32 × zM) :=
  zbd (f_X6_copy R M (R a0 0) a2) fun M1 =>
  zbd (f_X7_evening R M1 a1 (R a0 0) (M1 a1 8)) fun M3 =>
  zbd (f_X6_paidBy R M3 (R a0 0) x4) fun r5 =>
  zbd (f_X6_copy R M3 (R a0 0) a2) fun M7 =>
  zbd (f_X6_earn R M7 (R a0 0) x3 (-x5)) fun M9 =>
  zbd (f_X7_evening R M9 a1 (R a0 0) (M9 a1 8)) fun M11 =>
  zbd (f_X6_paidBy R M11 (R a0 0) x4) fun r13 =>
  some ((r5 - r13), M11)
def b_X0_findLeastGift_58 (R : zR) (M : zM) (a0 : Nat) (a1 : Nat) (a2 : Nat) (x3 : Int32) (x4 : Int32) (x5 : Int32) (x6 : Int32) : Option ((Int32 × zM) ⊕ ((Int32 × zM) ⊕ (zM))) :=
  if (M a2 4) ≤ x6 then (
    some (.inr (.inr M))
  ) else (
    if x6 = x3 then (
      some (.inl ((x6 + 1), M))
    ) else (
      zbd2 (f_X0_isFreeBy R M a0 a1 x3 x6 x5) fun r14 M15 =>
      if r14 = 0 then (
        some (.inl ((x6 + 1), M15))
      ) else (
        some (.inr (.inl (x6, M15)))
      )
    )
  )
def b_X0_findLeastGift_48 (R : zR) (M : zM) (a0 : Nat) (a1 : Nat) (a2 : Nat) (x3 : Int32) (x4 : Int32) (x5 : Int32) : Option ((Int32 × zM) ⊕ ((Int32 × Int32 × zM) ⊕ (zM))) :=
  if x4 < x5 then (
    some (.inr (.inr M))
  ) else (
    zbd (zloop zN (fun v => b_X0_findLeastGift_58 R v.2 a0 a1 a2 x3 x4 x5 v.1) ((0 : Int32), M)) fun e18 =>
    Sum.elim (fun e19 =>
      some (.inr (.inl (x5, e19.1, e19.2)))
    ) (fun e20 =>
      some (.inl ((x5 + 1), e20))
    ) e18
  )
def f_X0_findLeastGift (R : zR) (M : zM) (a0 : Nat) (a1 : Nat) (a2 : Nat) (x3 : Int32) : Option (zM) :=
  zlt (zup M a0 1 (0 : Int32)) fun M1 =>
  zlt (zup M1 a0 2 (-2 : Int32)) fun M2 =>
  zbd (f_X6_copy R M2 (R a0 0) a2) fun M3 =>
  zbd2 (f_X7_wanted R M3 a1 (R a0 0) x3) fun r5 M6 =>
  if r5 = 0 then (
    some M6
  ) else (
    zbd (f_X6_shown R M6 a2 x3) fun r9 =>
    zbd (zloop zN (fun v => b_X0_findLeastGift_48 R v.2 a0 a1 a2 x3 (if (2000 : Int32) < r9 then (2000 : Int32) else r9) v.1) ((1 : Int32), M6)) fun e21 =>
    Sum.elim (fun e22 =>
      zlt (zup e22.2.2 a0 1 e22.1) fun M24 =>
      zlt (zup M24 a0 2 e22.2.1) fun M25 =>
      some M25
    ) (fun e23 =>
      zlt (zup e23 a0 1 (-2 : Int32)) fun M26 =>
      some M26
    ) e21
  )
def b_X0_findBestGift_68 (R : zR) (M : zM) (a0 : Nat) (a1 : Nat) (a2 : Nat) (x3 : Int32) (x4 : Int32) (x5 : Int32) (x6 : Int32) (x7 : Int32) : Option ((Int32 × zM) ⊕ ((zM))) :=
  if (M a2 4) ≤ x7 then (
    some (.inr M)
  ) else (
    if x7 = x3 then (
      some (.inl ((x7 + 1), M))
    ) else (
      zbd (f_X6_copy R M (R a0 0) a2) fun M16 =>
      zbd (f_X6_move R M16 (R a0 0) x3 x7 (x6 * x4)) fun M18 =>
      zbd (f_X7_evenings R M18 a1 (R a0 0) x5 (M18 a1 8)) fun M20 =>
      zbd (f_X6_purseOf R M20 (R a0 0) x3) fun r22 =>
      zbd (f_X0_better M20 a0 r22 (x6 * x4) x7) fun M24 =>
      some (.inl ((x7 + 1), M24))
    )
  )
def b_X0_findBestGift_45 (R : zR) (M : zM) (a0 : Nat) (a1 : Nat) (a2 : Nat) (x3 : Int32) (x4 : Int32) (x5 : Int32) (x6 : Int32) : Option ((Int32 × zM) ⊕ ((zM))) :=
  if (20 : Int32) < x6 then (
    some (.inr M)
  ) else (
    zbd (f_X6_shown R M a2 x3) fun r11 =>
    if r11 < (x6 * x4) then (
      some (.inr M)
    ) else (
      zbd (zloop zN (fun v => b_X0_findBestGift_68 R v.2 a0 a1 a2 x3 x4 x5 x6 v.1) ((0 : Int32), M)) fun e26 =>
      some (.inl ((x6 + 1), e26))
    )
  )
def f_X0_findBestGift (R : zR) (M : zM) (a0 : Nat) (a1 : Nat) (a2 : Nat) (x3 : Int32) (x4 : Int32) (x5 : Int32) : Option (zM) :=
  zbd (f_X6_copy R M (R a0 0) a2) fun M1 =>
  zbd (f_X7_evenings R M1 a1 (R a0 0) x5 (M1 a1 8)) fun M3 =>
  zlt (zup M3 a0 3 (-1 : Int32)) fun M5 =>
  zbd (f_X6_purseOf R M5 (R a0 0) x3) fun r6 =>
  zbd (f_X0_better M5 a0 r6 (0 : Int32) (-2 : Int32)) fun M8 =>
  zbd (zloop zN (fun v => b_X0_findBestGift_45 R v.2 a0 a1 a2 x3 x4 x5 v.1) ((1 : Int32), M8)) fun e27 =>
  some e27
def j_X0_rate_45 (R : zR) (M : zM) (a0 : Nat) (a1 : Nat) (a2 : Nat) (x3 : Int32) (x4 : Int32) (x5 : Int32) (x6 : Int32) (s0 : Int32) : Option (Int32 × zM) :=
  zbd (f_X6_copy R M (R a0 0) a2) fun M8 =>
  zbd (f_X6_move R M8 (R a0 0) x3 x4 x5) fun M10 =>
  zbd (f_X7_evening R M10 a1 (R a0 0) (M10 a1 8)) fun M12 =>
  zbd (f_X6_shown R M12 (R a0 0) x4) fun r14 =>
  zbd (f_X6_move R M12 (R a0 0) x4 x3 (if r14 < x5 then r14 else x5)) fun M16 =>
  if x6 = 0 then (
    zbd (f_X6_purseOf R M16 (R a0 0) x3) fun r19 =>
    some ((s0 - r19), M16)
  ) else (
    zbd (f_X6_purseOf R M16 (R a0 0) x4) fun r21 =>
    some ((r21 - s0), M16)
  )
def f_X0_rate (R : zR) (M : zM) (a0 : Nat) (a1 : Nat) (a2 : Nat) (x3 : Int32) (x4 : Int32) (x5 : Int32) (x6 : Int32) : Option (Int32 × zM) :=
  zbd (f_X6_copy R M (R a0 0) a2) fun M1 =>
  zbd (f_X7_evening R M1 a1 (R a0 0) (M1 a1 8)) fun M3 =>
  if x6 = 0 then (
    zbd (f_X6_purseOf R M3 (R a0 0) x3) fun r6 =>
    j_X0_rate_45 R M3 a0 a1 a2 x3 x4 x5 x6 r6
  ) else (
    zbd (f_X6_purseOf R M3 (R a0 0) x4) fun r23 =>
    j_X0_rate_45 R M3 a0 a1 a2 x3 x4 x5 x6 r23
  )
def b_X0_bestSite_44 (R : zR) (M : zM) (a0 : Nat) (a1 : Nat) (a2 : Nat) (x3 : Int32) (x4 : Int32) (y5 : Int64) (x7 : Int32) (y8 : Int64) (x10 : Int32) : Option ((Int64 × Int32 × zM) ⊕ ((Int64 × zM))) :=
  if (M (R a0 0) 4) ≤ x10 then (
    some (.inr (y8, M))
  ) else (
    zbd2 (f_X7_wanted R M a1 (R a0 0) x10) fun r7 M8 =>
    some (.inl ((y8 + r7.toInt64), (x10 + 1), M8))
  )
def b_X0_bestSite_11 (R : zR) (M : zM) (a0 : Nat) (a1 : Nat) (a2 : Nat) (x3 : Int32) (x4 : Int32) (y5 : Int64) (x7 : Int32) : Option ((Int32 × Int64 × Int32 × zM) ⊕ ((Int32 × zM))) :=
  if (M a2 4) < x7 then (
    some (.inr (x4, M))
  ) else (
    zbd (f_X6_copy R M (R a0 0) a2) fun M2 =>
    zbd (f_X6_insert R M2 (R a0 0) x7 x3) fun M4 =>
    zbd (zloop zN (fun v => b_X0_bestSite_44 R v.2.2 a0 a1 a2 x3 x4 y5 x7 v.1 v.2.1) ((0 : Int64), (0 : Int32), M4)) fun e10 =>
    if 0 ≤ (lg_cmp e10.1 y5) then (
      some (.inl (x4, y5, (x7 + 1), e10.2))
    ) else (
      some (.inl (x7, e10.1, (x7 + 1), e10.2))
    )
  )
def f_X0_bestSite (R : zR) (M : zM) (a0 : Nat) (a1 : Nat) (a2 : Nat) (x3 : Int32) : Option (Int32 × zM) :=
  zbd (zloop zN (fun v => b_X0_bestSite_11 R v.2.2.2 a0 a1 a2 x3 v.1 v.2.1 v.2.2.1) ((0 : Int32), (9223372036854775807 : Int64), (0 : Int32), M)) fun e12 =>
  some (e12.1, e12.2)
def b_X1_walk_40 (R : zR) (M : zM) (a0 : Nat) (a1 : Nat) (x3 : Int32) (x4 : Int32) (x5 : Int32) : Option ((Int32 × zM) ⊕ ((zM))) :=
  if (10 : Int32) ≤ x5 then (
    some (.inr M)
  ) else (
    zbd (f_X6_has M (R a0 0) x5) fun r7 =>
    if r7 = 0 then (
      some (.inr M)
    ) else (
      zck (zin x5 10) <|
      zck (zin ((x4 + (1 : Int32)) + x5) 3311) <|
      zlt (zup M (R a0 1) (ztn ((x4 + (1 : Int32)) + x5)) (M (R (R a0 0) 0) (ztn x5))) fun M12 =>
      some (.inl ((x5 + 1), M12))
    )
  )
def b_X1_walk_10 (R : zR) (M : zM) (a0 : Nat) (a1 : Nat) (x3 : Int32) : Option ((Int32 × zM) ⊕ ((zM))) :=
  if (300 : Int32) < x3 then (
    some (.inr M)
  ) else (
    zck (zin (x3 * (11 : Int32)) 3311) <|
    zlt (zup M (R a0 1) (ztn (x3 * (11 : Int32))) (M (R a0 0) 5)) fun M5 =>
    zbd (zloop zN (fun v => b_X1_walk_40 R v.2 a0 a1 x3 (x3 * (11 : Int32)) v.1) ((0 : Int32), M5)) fun e13 =>
    zbd (f_X7_evening R e13 a1 (R a0 0) (e13 a1 8)) fun M14 =>
    some (.inl ((x3 + 1), M14))
  )
def f_X1_walk (R : zR) (M : zM) (a0 : Nat) (a1 : Nat) (a2 : Nat) : Option (zM) :=
  zbd (f_X6_copy R M (R a0 0) a2) fun M1 =>
  zbd (zloop zN (fun v => b_X1_walk_10 R v.2 a0 a1 v.1) ((0 : Int32), M1)) fun e16 =>
  some e16
def b_X1_period_20 (R : zR) (M : zM) (a0 : Nat) (x3 : Int32) (x4 : Int32) (x5 : Int32) : Option ((Int32) ⊕ ((Int32) ⊕ (Unit))) :=
  if (300 : Int32) < (x5 + x4) then (
    some (.inr (.inr ()))
  ) else (
    zbd (f_X1_isSame R M a0 x5 (x5 + x4)) fun r5 =>
    if r5 = 0 then (
      some (.inl (x5 + 1))
    ) else (
      some (.inr (.inl x5))
    )
  )
def b_X1_period_9 (R : zR) (M : zM) (a0 : Nat) (x3 : Int32) (x4 : Int32) : Option ((Int32) ⊕ ((Int32 × Int32) ⊕ (Unit))) :=
  if (300 : Int32) < x4 then (
    some (.inr (.inr ()))
  ) else (
    zbd (zloop zN (fun v => b_X1_period_20 R M a0 x3 x4 v) (0 : Int32)) fun e8 =>
    Sum.elim (fun e9 =>
      some (.inr (.inl (x4, e9)))
    ) (fun e10 =>
      some (.inl (x4 + 1))
    ) e8
  )
def f_X1_period (R : zR) (M : zM) (a0 : Nat) (a1 : Nat) (a2 : Nat) (x3 : Int32) : Option (Int32 × zM) :=
  zbd (f_X1_walk R M a0 a1 a2) fun M1 =>
  zbd (zloop zN (fun v => b_X1_period_9 R M1 a0 x3 v) (1 : Int32)) fun e11 =>
  Sum.elim (fun e12 =>
    if x3 = 0 then (
      some (e12.2, M1)
    ) else (
      some (e12.1, M1)
    )
  ) (fun e13 =>
    some ((-2 : Int32), M1)
  ) e11
def f_X1_spreadAfter (R : zR) (M : zM) (a0 : Nat) (a1 : Nat) (a2 : Nat) (x3 : Int32) : Option (Int32 × zM) :=
  zbd (f_X6_copy R M (R a0 0) a2) fun M1 =>
  zbd (f_X7_evenings R M1 a1 (R a0 0) x3 (M1 a1 8)) fun M3 =>
  zbd (f_X6_spread R M3 (R a0 0)) fun r5 =>
  some (r5, M3)
def b_X1_evenAfter_11 (R : zR) (M : zM) (a0 : Nat) (a1 : Nat) (x3 : Int32) (x4 : Int32) (x5 : Int32) : Option ((Int32 × zM) ⊕ ((Int32 × zM) ⊕ (zM))) :=
  if (300 : Int32) < x5 then (
    some (.inr (.inr M))
  ) else (
    zbd (f_X6_spread R M (R a0 0)) fun r4 =>
    if x3 < r4 then (
      zbd (f_X7_evening R M a1 (R a0 0) x4) fun M7 =>
      some (.inl ((x5 + 1), M7))
    ) else (
      some (.inr (.inl (x5, M)))
    )
  )
def f_X1_evenAfter (R : zR) (M : zM) (a0 : Nat) (a1 : Nat) (a2 : Nat) (x3 : Int32) (x4 : Int32) : Option (Int32 × zM) :=
  zbd (f_X6_copy R M (R a0 0) a2) fun M1 =>
  zbd (zloop zN (fun v => b_X1_evenAfter_11 R v.2 a0 a1 x3 x4 v.1) ((0 : Int32), M1)) fun e9 =>
  Sum.elim (fun e10 =>
    some (e10.1, e10.2)
  ) (fun e11 =>
    some ((-2 : Int32), e11)
  ) e9
def b_X1_soonestSharing_12 (R : zR) (M : zM) (a0 : Nat) (a1 : Nat) (a2 : Nat) (x3 : Int32) (x4 : Int32) (x5 : Int32) (x6 : Int32) : Option ((Int32 × Int32 × Int32 × zM) ⊕ ((Int32 × zM))) :=
  if (2 : Int32) < x6 then (
    some (.inr (x4, M))
  ) else (
    zbd2 (f_X1_evenAfter R M a0 a1 a2 x3 x6) fun r2 M3 =>
    if r2 < 0 then (
      some (.inl (x4, x5, (x6 + 1), M3))
    ) else (
      if x5 ≤ r2 then (
        some (.inl (x4, x5, (x6 + 1), M3))
      ) else (
        some (.inl (x6, r2, (x6 + 1), M3))
      )
    )
  )
def f_X1_soonestSharing (R : zR) (M : zM) (a0 : Nat) (a1 : Nat) (a2 : Nat) (x3 : Int32) : Option (Int32 × zM) :=
  zbd (zloop zN (fun v => b_X1_soonestSharing_12 R v.2.2.2 a0 a1 a2 x3 v.1 v.2.1 v.2.2.1) ((-2 : Int32), (301 : Int32), (0 : Int32), M)) fun e7 =>
  some (e7.1, e7.2)
def j_X2_note_70 (R : zR) (M : zM) (a0 : Nat) (b0 : Nat) (s1 : Int32) : Option (zM) :=
  zlt (zup M b0 3 s1) fun M8 =>
  if (30 : Int32) ≤ (M8 a0 4) then (
    some M8
  ) else (
    zlt (zup M8 a0 4 ((M8 a0 4) + (1 : Int32))) fun M10 =>
    some M10
  )
def f_X2_note (R : zR) (M : zM) (a0 : Nat) (a1 : Nat) : Option (zM) :=
  if (M a0 3) < 0 then (
    some M
  ) else (
    if (30 : Int32) ≤ (M a0 3) then (
      some M
    ) else (
      zck (zin (M a0 3) 30) <|
      zck (zin (M a0 3) 30) <|
      zbd (f_X6_copy R M (R (R a0 0) (ztn (M a0 3))) a1) fun M5 =>
      if (30 : Int32) ≤ ((M5 a0 3) + (1 : Int32)) then (
        j_X2_note_70 R M5 a0 a0 (0 : Int32)
      ) else (
        j_X2_note_70 R M5 a0 a0 ((M5 a0 3) + (1 : Int32))
      )
    )
  )
def j_X2_takeBack_32 (R : zR) (M : zM) (a0 : Nat) (a1 : Nat) (s0 : Int32) : Option (Int32 × zM) :=
  if (30 : Int32) ≤ s0 then (
    some ((0 : Int32), M)
  ) else (
    zck (zin s0 30) <|
    zck (zin s0 30) <|
    zbd (f_X6_copy R M a1 (R (R a0 0) (ztn s0))) fun M6 =>
    zlt (zup M6 a0 3 s0) fun M8 =>
    zlt (zup M8 a0 4 ((M8 a0 4) - (1 : Int32))) fun M9 =>
    some ((1 : Int32), M9)
  )
def f_X2_takeBack (R : zR) (M : zM) (a0 : Nat) (a1 : Nat) : Option (Int32 × zM) :=
  if 0 < (M a0 4) then (
    if (M a0 3) ≤ 0 then (
      j_X2_takeBack_32 R M a0 a1 ((30 : Int32) - (1 : Int32))
    ) else (
      j_X2_takeBack_32 R M a0 a1 ((M a0 3) - (1 : Int32))
    )
  ) else (
    some ((0 : Int32), M)
  )
def f_X2_holdIn (R : zR) (M : zM) (a0 : Nat) (x1 : Int32) (a2 : Nat) : Option (Int32 × zM) :=
  if x1 < 0 then (
    some ((0 : Int32), M)
  ) else (
    if (3 : Int32) ≤ x1 then (
      some ((0 : Int32), M)
    ) else (
      zck (zin x1 3) <|
      zck (zin x1 3) <|
      zbd (f_X6_copy R M (R (R a0 1) (ztn x1)) a2) fun M5 =>
      zck (zin x1 3) <|
      zlt (zup M5 (R a0 2) (ztn x1) (1 : Int32)) fun M8 =>
      some ((1 : Int32), M8)
    )
  )
def f_X2_bringBack (R : zR) (M : zM) (a0 : Nat) (x1 : Int32) (a2 : Nat) : Option (Int32 × zM) :=
  zbd (f_X2_isHeld R M a0 x1) fun r1 =>
  if r1 = 0 then (
    some ((0 : Int32), M)
  ) else (
    zck (zin x1 3) <|
    zck (zin x1 3) <|
    zbd (f_X6_copy R M a2 (R (R a0 1) (ztn x1))) fun M6 =>
    some ((1 : Int32), M6)
  )
def j_X4_follow_68 (R : zR) (M : zM) (a0 : Nat) (a1 : Nat) (x3 : Int32) (x4 : Int32) (x5 : Int32) (b0 : Nat) (s1 : Int32) (s2 : Int32) : Option ((Int32 × zM) ⊕ ((zM))) :=
  zck (zin s1 10) <|
  zlt (zup M b0 (ztn s1) s2) fun M9 =>
  some (.inl ((x5 + 1), M9))
def b_X4_follow_11 (R : zR) (M : zM) (a0 : Nat) (a1 : Nat) (x3 : Int32) (x4 : Int32) (x5 : Int32) : Option ((Int32 × zM) ⊕ ((zM))) :=
  if (10 : Int32) ≤ x5 then (
    some (.inr M)
  ) else (
    zbd (f_X6_has M (R a0 0) x5) fun r4 =>
    if r4 = 0 then (
      some (.inr M)
    ) else (
      if ((x4 >>> (x5 &&& 31)) &&& (1 : Int32)) = (1 : Int32) then (
        zck (zin x5 10) <|
        j_X4_follow_68 R M a0 a1 x3 x4 x5 (R (R a0 0) 1) x5 (if (M (R (R a0 0) 0) (ztn x5)) < x3 then (M (R (R a0 0) 0) (ztn x5)) else x3)
      ) else (
        j_X4_follow_68 R M a0 a1 x3 x4 x5 (R (R a0 0) 1) x5 (0 : Int32)
      )
    )
  )
def b_X4_follow_90 (R : zR) (M : zM) (a0 : Nat) (x4 : Int32) (x5 : Int32) : Option ((Int32 × zM) ⊕ ((zM))) :=
  if (8 : Int32) ≤ x5 then (
    some (.inr M)
  ) else (
    zbd (f_X6_has M (R a0 0) x5) fun r15 =>
    if r15 = 0 then (
      some (.inr M)
    ) else (
      zck (zin x5 10) <|
      zck (zin ((x4 * (8 : Int32)) + x5) 2048) <|
      zlt (zup M (R a0 1) (ztn ((x4 * (8 : Int32)) + x5)) (M (R (R a0 0) 0) (ztn x5))) fun M20 =>
      some (.inl ((x5 + 1), M20))
    )
  )
def f_X4_follow (R : zR) (M : zM) (a0 : Nat) (a1 : Nat) (a2 : Nat) (x3 : Int32) (x4 : Int32) : Option (zM) :=
  zbd (f_X6_copy R M (R a0 0) a2) fun M1 =>
  zbd (zloop zN (fun v => b_X4_follow_11 R v.2 a0 a1 x3 x4 v.1) ((0 : Int32), M1)) fun e11 =>
  zbd (f_X7_evening R e11 a1 (R a0 0) (e11 a1 8)) fun M12 =>
  zbd (zloop zN (fun v => b_X4_follow_90 R v.2 a0 x4 v.1) ((0 : Int32), M12)) fun e21 =>
  some e21
def b_X4_restAt_23 (R : zR) (M : zM) (a0 : Nat) (a1 : Nat) (a2 : Nat) (x3 : Int32) (x4 : Int32) (x5 : Int32) (x6 : Int32) : Option ((Int32 × zM) ⊕ ((zM))) :=
  if x5 ≤ x6 then (
    some (.inr M)
  ) else (
    zbd (f_X4_follow R M a0 a1 a2 x3 x6) fun M3 =>
    some (.inl ((x6 + 1), M3))
  )
def b_X4_restAt_51 (R : zR) (M : zM) (a0 : Nat) (a2 : Nat) (x4 : Int32) (x5 : Int32) (x6 : Int32) (x7 : Int32) : Option ((Int32 × Int32) ⊕ ((Int32) ⊕ (Int32))) :=
  if x5 ≤ x7 then (
    some (.inr (.inr x6))
  ) else (
    zbd (f_X4_isRest R M a0 x7 (M a2 4)) fun r7 =>
    if r7 = 0 then (
      some (.inl (x6, (x7 + 1)))
    ) else (
      if x6 = x4 then (
        some (.inr (.inl x7))
      ) else (
        some (.inl ((x6 + 1), (x7 + 1)))
      )
    )
  )
def f_X4_restAt (R : zR) (M : zM) (a0 : Nat) (a1 : Nat) (a2 : Nat) (x3 : Int32) (x4 : Int32) : Option (Int32 × zM) :=
  if (M a2 4) ≤ (8 : Int32) then (
    zbd (zloop zN (fun v => b_X4_restAt_23 R v.2 a0 a1 a2 x3 x4 ((1 : Int32) <<< ((M a2 4) &&& 31)) v.1) ((0 : Int32), M)) fun e5 =>
    zbd (zloop zN (fun v => b_X4_restAt_51 R e5 a0 a2 x4 ((1 : Int32) <<< ((M a2 4) &&& 31)) v.1 v.2) ((0 : Int32), (0 : Int32))) fun e11 =>
    Sum.elim (fun e12 =>
      some (e12, e5)
    ) (fun e13 =>
      if x4 = (-1 : Int32) then (
        some (e13, e5)
      ) else (
        some ((-1 : Int32), e5)
      )
    ) e11
  ) else (
    some ((-2 : Int32), M)
  )
def b_X10_paysAsKnown_2 (R : zR) (M : zM) (a0 : Nat) (a1 : Nat) (x2 : Int32) : Option ((Int32 × zM) ⊕ ((zM))) :=
  if (10 : Int32) ≤ x2 then (
    some (.inr M)
  ) else (
    zbd (f_X6_has M (R a0 5) x2) fun r2 =>
    if r2 = 0 then (
      some (.inr M)
    ) else (
      zck (zin x2 10) <|
      zck (zin x2 10) <|
      zlt (zup M (R (R a0 5) 0) (ztn x2) (M (R a0 4) (ztn x2))) fun M7 =>
      some (.inl ((x2 + 1), M7))
    )
  )
def j_X10_paysAsKnown_119 (R : zR) (M : zM) (a0 : Nat) (a1 : Nat) (x2 : Int32) (x3 : Int32) : Option ((Int32 × zM) ⊕ ((zM) ⊕ (zM))) :=
  if (M a1 7) = 0 then (
    some (.inl ((x2 + 1), M))
  ) else (
    zbd (f_X6_pay R M (R a0 5) x2 x3) fun M22 =>
    some (.inl ((x2 + 1), M22))
  )
def j_X10_paysAsKnown_87 (R : zR) (M : zM) (a0 : Nat) (a1 : Nat) (x2 : Int32) : Option ((Int32 × zM) ⊕ ((zM) ⊕ (zM))) :=
  zbd2 (f_X7_wanted R M a1 (R a0 5) x2) fun r16 M17 =>
  zck (zin x2 10) <|
  if (M17 (R a0 2) (ztn x2)) = (-1 : Int32) then (
    j_X10_paysAsKnown_119 R M17 a0 a1 x2 r16
  ) else (
    zck (zin x2 10) <|
    if r16 = (M17 (R a0 2) (ztn x2)) then (
      j_X10_paysAsKnown_119 R M17 a0 a1 x2 r16
    ) else (
      some (.inr (.inl M17))
    )
  )
def b_X10_paysAsKnown_42 (R : zR) (M : zM) (a0 : Nat) (a1 : Nat) (x2 : Int32) : Option ((Int32 × zM) ⊕ ((zM) ⊕ (zM))) :=
  if (M a0 7) < x2 then (
    some (.inr (.inr M))
  ) else (
    if (10 : Int32) ≤ x2 then (
      some (.inr (.inr M))
    ) else (
      zbd (f_X6_has M (R a0 5) x2) fun r11 =>
      if r11 = 0 then (
        some (.inr (.inr M))
      ) else (
        zck (zin x2 10) <|
        if (M (R a0 2) (ztn x2)) = (-1 : Int32) then (
          if (M a1 7) = 0 then (
            some (.inl ((x2 + 1), M))
          ) else (
            j_X10_paysAsKnown_87 R M a0 a1 x2
          )
        ) else (
          j_X10_paysAsKnown_87 R M a0 a1 x2
        )
      )
    )
  )
def f_X10_paysAsKnown (R : zR) (M : zM) (a0 : Nat) (a1 : Nat) : Option (Int32 × zM) :=
  zbd (zloop zN (fun v => b_X10_paysAsKnown_2 R v.2 a0 a1 v.1) ((0 : Int32), M)) fun e8 =>
  zbd (zloop zN (fun v => b_X10_paysAsKnown_42 R v.2 a0 a1 v.1) ((0 : Int32), e8)) fun e27 =>
  Sum.elim (fun e28 =>
    some ((0 : Int32), e28)
  ) (fun e29 =>
    some ((1 : Int32), e29)
  ) e27
def b_X10_goThrough_26 (R : zR) (M : zM) (a0 : Nat) (a1 : Nat) (a2 : Nat) (x3 : Int32) (x4 : Int32) (x5 : Int32) (x6 : Int32) : Option ((Int32 × zM) ⊕ ((zM))) :=
  if (10 : Int32) ≤ x6 then (
    some (.inr M)
  ) else (
    zbd (f_X6_has M (R a0 5) x6) fun r7 =>
    if r7 = 0 then (
      some (.inr M)
    ) else (
      zck (zin x6 10) <|
      zlt (zup M (R (R a0 5) 1) (ztn x6) (0 : Int32)) fun M11 =>
      some (.inl ((x6 + 1), M11))
    )
  )
def b_X10_goThrough_87 (R : zR) (M : zM) (a0 : Nat) (a1 : Nat) (a2 : Nat) (x3 : Int32) (x4 : Int32) (x5 : Int32) (x7 : Int32) (x8 : Int32) : Option ((Int32 × zM) ⊕ ((zM))) :=
  if x5 = 0 then (
    some (.inr M)
  ) else (
    if (10 : Int32) ≤ x8 then (
      some (.inr M)
    ) else (
      zbd (f_X6_has M (R a0 5) x8) fun r20 =>
      if r20 = 0 then (
        some (.inr M)
      ) else (
        zck (zin x8 10) <|
        zck (zin x8 10) <|
        zck (zin x8 10) <|
        zlt (zup M (R a0 2) (ztn x8) ((M (R a0 4) (ztn x8)) - (M (R a0 3) (ztn x8)))) fun M26 =>
        some (.inl ((x8 + 1), M26))
      )
    )
  )
def j_X10_goThrough_164 (R : zR) (M : zM) (a0 : Nat) (a1 : Nat) (a2 : Nat) (x3 : Int32) (x4 : Int32) (x5 : Int32) (x7 : Int32) : Option ((Int32 × Int32 × zM) ⊕ ((zM))) :=
  zbd2 (f_X10_stepRow R M a0 x3) fun r33 M34 =>
  some (.inl (r33, (x7 + 1), M34))
def b_X10_goThrough_72 (R : zR) (M : zM) (a0 : Nat) (a1 : Nat) (a2 : Nat) (x3 : Int32) (x4 : Int32) (x5 : Int32) (x6 : Int32) (x7 : Int32) : Option ((Int32 × Int32 × zM) ⊕ ((zM))) :=
  if (200000 : Int32) ≤ x7 then (
    some (.inr M)
  ) else (
    if x6 = 0 then (
      some (.inr M)
    ) else (
      zbd (zloop zN (fun v => b_X10_goThrough_87 R v.2 a0 a1 a2 x3 x4 x5 x7 v.1) ((0 : Int32), M)) fun e27 =>
      zlt (zup e27 (R a0 5) 5 (e27 a2 5)) fun M28 =>
      zbd2 (f_X10_paysAsKnown R M28 a0 a1) fun r29 M30 =>
      if r29 = 0 then (
        j_X10_goThrough_164 R M30 a0 a1 a2 x3 x4 x5 x7
      ) else (
        zbd (f_X10_note R M30 a0 x4) fun M36 =>
        j_X10_goThrough_164 R M36 a0 a1 a2 x3 x4 x5 x7
      )
    )
  )
def f_X10_goThrough (R : zR) (M : zM) (a0 : Nat) (a1 : Nat) (a2 : Nat) (x3 : Int32) (x4 : Int32) (x5 : Int32) : Option (zM) :=
  zlt (zup M a0 8 (0 : Int32)) fun M1 =>
  zlt (zup M1 a0 9 x3) fun M2 =>
  zlt (zup M2 a0 10 (0 : Int32)) fun M3 =>
  zbd (f_X6_copy R M3 (R a0 5) a2) fun M4 =>
  zbd (zloop zN (fun v => b_X10_goThrough_26 R v.2 a0 a1 a2 x3 x4 x5 v.1) ((0 : Int32), M4)) fun e12 =>
  zbd2 (f_X10_startRows R e12 a0 x3) fun r13 M14 =>
  zbd (zloop zN (fun v => b_X10_goThrough_72 R v.2.2 a0 a1 a2 x3 x4 x5 v.1 v.2.1) (r13, (0 : Int32), M14)) fun e38 =>
  some e38
def b_X10_goThroughFits_8 (R : zR) (M : zM) (a0 : Nat) (a1 : Nat) (a2 : Nat) (x3 : Int32) (x4 : Int32) (x5 : Int32) (x6 : Int32) : Option ((Int32 × zM) ⊕ ((zM))) :=
  if (10 : Int32) ≤ x6 then (
    some (.inr M)
  ) else (
    zck (zin x6 10) <|
    zlt (zup M (R a0 2) (ztn x6) (-1 : Int32)) fun M4 =>
    zck (zin x6 10) <|
    zlt (zup M4 (R a0 3) (ztn x6) (0 : Int32)) fun M6 =>
    some (.inl ((x6 + 1), M6))
  )
def b_X10_goThroughFits_40 (R : zR) (M : zM) (a0 : Nat) (a1 : Nat) (a2 : Nat) (x3 : Int32) (x4 : Int32) (x5 : Int32) (x6 : Int32) : Option ((Int32 × zM) ⊕ ((zM))) :=
  if x4 ≤ x6 then (
    some (.inr M)
  ) else (
    if (M a0 6) ≤ x6 then (
      some (.inr M)
    ) else (
      if (20 : Int32) ≤ x6 then (
        some (.inr M)
      ) else (
        zck (zin x6 20) <|
        zbd (f_X6_has M a2 (M (R a0 0) (ztn x6))) fun r12 =>
        if r12 = 0 then (
          some (.inl ((x6 + 1), M))
        ) else (
          zck (zin x6 20) <|
          zck (zin x6 20) <|
          zck (zin (M (R a0 0) (ztn x6)) 10) <|
          zlt (zup M (R a0 2) (ztn (M (R a0 0) (ztn x6))) (M (R a0 1) (ztn x6))) fun M18 =>
          zck (zin x6 20) <|
          zlt (zup M18 a0 7 (if (M18 a0 7) < (M18 (R a0 0) (ztn x6)) then (M18 (R a0 0) (ztn x6)) else (M18 a0 7))) fun M20 =>
          some (.inl ((x6 + 1), M20))
        )
      )
    )
  )
def f_X10_goThroughFits (R : zR) (M : zM) (a0 : Nat) (a1 : Nat) (a2 : Nat) (x3 : Int32) (x4 : Int32) (x5 : Int32) : Option (zM) :=
  zlt (zup M a0 7 (-1 : Int32)) fun M1 =>
  zbd (zloop zN (fun v => b_X10_goThroughFits_8 R v.2 a0 a1 a2 x3 x4 x5 v.1) ((0 : Int32), M1)) fun e7 =>
  zbd (zloop zN (fun v => b_X10_goThroughFits_40 R v.2 a0 a1 a2 x3 x4 x5 v.1) ((0 : Int32), e7)) fun e21 =>
  zbd (f_X10_goThrough R e21 a0 a1 a2 x3 x5 (0 : Int32)) fun M22 =>
  some M22
def b_X10_goThroughAgo_13 (R : zR) (M : zM) (a0 : Nat) (a1 : Nat) (a2 : Nat) (x3 : Int32) (x4 : Int32) : Option ((Int32 × zM) ⊕ ((zM))) :=
  if (10 : Int32) ≤ x4 then (
    some (.inr M)
  ) else (
    zbd (f_X6_has M a2 x4) fun r3 =>
    if r3 = 0 then (
      some (.inr M)
    ) else (
      zck (zin x4 10) <|
      zck (zin x4 10) <|
      zlt (zup M (R a0 3) (ztn x4) (M (R a2 0) (ztn x4))) fun M8 =>
      some (.inl ((x4 + 1), M8))
    )
  )
def f_X10_goThroughAgo (R : zR) (M : zM) (a0 : Nat) (a1 : Nat) (a2 : Nat) (x3 : Int32) : Option (zM) :=
  zlt (zup M a0 7 ((M a2 4) - (1 : Int32))) fun M1 =>
  zbd (zloop zN (fun v => b_X10_goThroughAgo_13 R v.2 a0 a1 a2 x3 v.1) ((0 : Int32), M1)) fun e9 =>
  zbd (f_X10_goThrough R e9 a0 a1 a2 x3 (0 : Int32) (1 : Int32)) fun M10 =>
  some M10
def f_X11_goOnFromSpare (R : zR) (M : zM) (a0 : Nat) : Option (zR × zM) :=
  zlt (zupR R a0 8 (R a0 9)) fun R1 =>
  zlt (zupR R1 a0 9 (R a0 8)) fun R2 =>
  zbd (f_X6_begin R2 M (R2 a0 2) (R2 a0 8)) fun M3 =>
  zbd (f_X2_clear R2 M3 (R2 a0 3)) fun M5 =>
  zbd (f_X10_clear M5 (R2 a0 7)) fun M7 =>
  some (R2, M7)
def f_X11_read (R : zR) (M : zM) (L : zL) (a0 : Nat) : Option (Int32 × zR × zM × zL) :=
  zbd3 (f_X5_parse R M L (R a0 1) (R a0 0) (R a0 9)) fun r1 M2 L3 =>
  zlt (zup M2 (R a0 0) 1 (0 : Int32)) fun M5 =>
  zbd (f_X5_faultPlace M5 (R a0 1)) fun r6 =>
  zlt (zup M5 a0 10 r6) fun M8 =>
  if r1 = 0 then (
    zbd2 (f_X11_goOnFromSpare R M8 a0) fun R10 M11 =>
    some (r1, R10, M11, L3)
  ) else (
    some (r1, R, M8, L3)
  )
def f_X11_house (R : zR) (M : zM) (a0 : Nat) (x1 : Int32) (x2 : Int32) : Option (Int32 × zM) :=
  zbd (f_X6_has M (R a0 2) x1) fun r1 =>
  if r1 = 0 then (
    some ((-1 : Int32), M)
  ) else (
    if x2 = 0 then (
      zck (zin x1 10) <|
      some ((M (R (R a0 2) 0) (ztn x1)), M)
    ) else (
      if x2 = 1 then (
        zck (zin x1 10) <|
        some ((M (R (R a0 2) 1) (ztn x1)), M)
      ) else (
        if x2 = 2 then (
          zbd (f_X6_shown R M (R a0 2) x1) fun r13 =>
          some (r13, M)
        ) else (
          if x2 = 3 then (
            zbd2 (f_X7_gapOf R M (R a0 8) (R a0 2) x1) fun r15 M16 =>
            some (r15, M16)
          ) else (
            if x2 = 4 then (
              zbd2 (f_X7_wanted R M (R a0 8) (R a0 2) x1) fun r18 M19 =>
              some (r18, M19)
            ) else (
              if x2 = 5 then (
                zck (zin x1 10) <|
                some ((M (R (R a0 2) 2) (ztn x1)), M)
              ) else (
                if x2 = 6 then (
                  zck (zin x1 10) <|
                  some ((M (R (R a0 2) 3) (ztn x1)), M)
                ) else (
                  some ((-1 : Int32), M)
                )
              )
            )
          )
        )
      )
    )
  )
def j_X11_run_43 (R : zR) (M : zM) (a0 : Nat) : Option (Int32 × zM) :=
  some ((M (R a0 2) 6), M)
def f_X11_run (R : zR) (M : zM) (a0 : Nat) (x1 : Int32) : Option (Int32 × zM) :=
  zbd (f_X11_isEvenings x1) fun r1 =>
  if r1 = 0 then (
    some ((-1 : Int32), M)
  ) else (
    if x1 ≤ 0 then (
      j_X11_run_43 R M a0
    ) else (
      zbd (f_X2_note R M (R a0 3) (R a0 2)) fun M5 =>
      zbd (f_X7_evenings R M5 (R a0 8) (R a0 2) x1 (M5 (R a0 8) 8)) fun M7 =>
      j_X11_run_43 R M7 a0
    )
  )
def f_X11_give (R : zR) (M : zM) (a0 : Nat) (x1 : Int32) (x2 : Int32) (x3 : Int32) : Option (Int32 × zM) :=
  zbd (f_X6_has M (R a0 2) x1) fun r1 =>
  if r1 = 0 then (
    some ((0 : Int32), M)
  ) else (
    zbd (f_X6_has M (R a0 2) x2) fun r4 =>
    if r4 = 0 then (
      some ((0 : Int32), M)
    ) else (
      if x1 = x2 then (
        some ((0 : Int32), M)
      ) else (
        if x3 < 0 then (
          some ((0 : Int32), M)
        ) else (
          zbd (f_X6_shown R M (R a0 2) x1) fun r9 =>
          if x3 ≤ r9 then (
            zbd (f_X2_note R M (R a0 3) (R a0 2)) fun M12 =>
            zbd (f_X6_move R M12 (R a0 2) x1 x2 x3) fun M14 =>
            some ((1 : Int32), M14)
          ) else (
            some ((0 : Int32), M)
          )
        )
      )
    )
  )
def f_X11_hide (R : zR) (M : zM) (a0 : Nat) (x1 : Int32) (x2 : Int32) : Option (Int32 × zM) :=
  zbd (f_X6_has M (R a0 2) x1) fun r1 =>
  if r1 = 0 then (
    some ((0 : Int32), M)
  ) else (
    if x2 < 0 then (
      some ((0 : Int32), M)
    ) else (
      zck (zin x1 10) <|
      if x2 ≤ (M (R (R a0 2) 0) (ztn x1)) then (
        zbd (f_X2_note R M (R a0 3) (R a0 2)) fun M7 =>
        zck (zin x1 10) <|
        zlt (zup M7 (R (R a0 2) 1) (ztn x1) x2) fun M10 =>
        some ((1 : Int32), M10)
      ) else (
        some ((0 : Int32), M)
      )
    )
  )
def f_X11_grab (R : zR) (M : zM) (a0 : Nat) (x1 : Int32) : Option (Int32 × zM) :=
  zbd (f_X6_has M (R a0 2) x1) fun r1 =>
  if r1 = 0 then (
    some ((-1 : Int32), M)
  ) else (
    zbd (f_X2_note R M (R a0 3) (R a0 2)) fun M4 =>
    zck (zin x1 10) <|
    zck (zin x1 10) <|
    zlt (zup M4 (R (R a0 2) 0) (ztn x1) ((M4 (R (R a0 2) 0) (ztn x1)) + (M4 (R a0 2) 5))) fun M8 =>
    zlt (zup M8 (R a0 2) 5 (0 : Int32)) fun M9 =>
    some ((M4 (R a0 2) 5), M9)
  )
def f_X11_build (R : zR) (M : zM) (a0 : Nat) (x1 : Int32) (x2 : Int32) : Option (Int32 × zM) :=
  if x1 < 0 then (
    some ((-1 : Int32), M)
  ) else (
    if (M (R a0 2) 4) < x1 then (
      some ((-1 : Int32), M)
    ) else (
      zbd (f_X6_isFull M (R a0 2)) fun r3 =>
      if r3 = 0 then (
        zbd (f_X11_isPurse x2) fun r6 =>
        if r6 = 0 then (
          some ((-1 : Int32), M)
        ) else (
          zbd (f_X2_note R M (R a0 3) (R a0 2)) fun M9 =>
          zbd (f_X6_insert R M9 (R a0 2) x1 x2) fun M11 =>
          some ((M11 (R a0 2) 4), M11)
        )
      ) else (
        some ((-1 : Int32), M)
      )
    )
  )
def f_X11_burn (R : zR) (M : zM) (a0 : Nat) (x1 : Int32) : Option (Int32 × zM) :=
  zbd (f_X6_has M (R a0 2) x1) fun r1 =>
  if r1 = 0 then (
    some ((-1 : Int32), M)
  ) else (
    zbd (f_X2_note R M (R a0 3) (R a0 2)) fun M4 =>
    zck (zin x1 10) <|
    zbd (f_X6_remove R M4 (R a0 2) x1) fun M7 =>
    some ((M4 (R (R a0 2) 0) (ztn x1)), M7)
  )
def j_X11_join_96 (R : zR) (M : zM) (a0 : Nat) (x3 : Int32) (b0 : Nat) (s1 : Int32) (s2 : Int32) : Option (Int32 × zM) :=
  zbd (f_X6_merge R M b0 s1 s2) fun M11 =>
  zbd (f_X6_purseOf R M11 (R a0 2) x3) fun r13 =>
  some (r13, M11)
def j_X11_join_79 (R : zR) (M : zM) (a0 : Nat) (x1 : Int32) (x2 : Int32) (s0 : Int32) : Option (Int32 × zM) :=
  if x2 = 0 then (
    j_X11_join_96 R M a0 s0 (R a0 2) s0 (x1 + (1 : Int32))
  ) else (
    j_X11_join_96 R M a0 s0 (R a0 2) s0 x1
  )
def j_X11_join_59 (R : zR) (M : zM) (a0 : Nat) (x1 : Int32) (x2 : Int32) : Option (Int32 × zM) :=
  zbd (f_X2_note R M (R a0 3) (R a0 2)) fun M7 =>
  if x2 = 0 then (
    j_X11_join_79 R M7 a0 x1 x2 x1
  ) else (
    j_X11_join_79 R M7 a0 x1 x2 (0 : Int32)
  )
def j_X11_join_42 (R : zR) (M : zM) (a0 : Nat) (x1 : Int32) (s0 : Int32) : Option (Int32 × zM) :=
  if s0 = 0 then (
    j_X11_join_59 R M a0 x1 s0
  ) else (
    if (M (R a0 8) 6) = 0 then (
      j_X11_join_59 R M a0 x1 s0
    ) else (
      some ((-1 : Int32), M)
    )
  )
def f_X11_join (R : zR) (M : zM) (a0 : Nat) (x1 : Int32) : Option (Int32 × zM) :=
  zbd (f_X6_has M (R a0 2) x1) fun r1 =>
  if r1 = 0 then (
    some ((-1 : Int32), M)
  ) else (
    if (2 : Int32) ≤ (M (R a0 2) 4) then (
      if x1 = ((M (R a0 2) 4) - (1 : Int32)) then (
        j_X11_join_42 R M a0 x1 (1 : Int32)
      ) else (
        j_X11_join_42 R M a0 x1 (0 : Int32)
      )
    ) else (
      some ((-1 : Int32), M)
    )
  )
def f_X11_undo (R : zR) (M : zM) (a0 : Nat) : Option (Int32 × zM) :=
  zbd2 (f_X2_takeBack R M (R a0 3) (R a0 2)) fun r1 M2 =>
  zck (zbool r1) <|
  some (r1, M2)
def j_X11_becomes_32 (R : zR) (M : zM) (b0 : Nat) (b1 : Nat) (b2 : Nat) (s3 : Int32) : Option (Int32 × zM) :=
  zbd2 (f_X1_period R M b0 b1 b2 s3) fun r3 M4 =>
  some (r3, M4)
def j_X11_becomes_11 (R : zR) (M : zM) (a0 : Nat) (x1 : Int32) : Option (Int32 × zM) :=
  if x1 = 0 then (
    j_X11_becomes_32 R M (R a0 4) (R a0 8) (R a0 2) (1 : Int32)
  ) else (
    j_X11_becomes_32 R M (R a0 4) (R a0 8) (R a0 2) (0 : Int32)
  )
def f_X11_becomes (R : zR) (M : zM) (a0 : Nat) (x1 : Int32) : Option (Int32 × zM) :=
  if x1 = 0 then (
    j_X11_becomes_11 R M a0 x1
  ) else (
    if x1 = (1 : Int32) then (
      j_X11_becomes_11 R M a0 x1
    ) else (
      some ((-1 : Int32), M)
    )
  )
def f_X11_apart (R : zR) (M : zM) (a0 : Nat) (x1 : Int32) : Option (Int32 × zM) :=
  zbd (f_X11_isEvenings x1) fun r1 =>
  if r1 = 0 then (
    some ((-1 : Int32), M)
  ) else (
    zbd2 (f_X1_spreadAfter R M (R a0 4) (R a0 8) (R a0 2) x1) fun r4 M5 =>
    some (r4, M5)
  )
def f_X11_even (R : zR) (M : zM) (a0 : Nat) (x1 : Int32) (x2 : Int32) : Option (Int32 × zM) :=
  if x1 < 0 then (
    some ((-1 : Int32), M)
  ) else (
    if x2 < 0 then (
      some ((-1 : Int32), M)
    ) else (
      if x2 ≤ (2 : Int32) then (
        zbd2 (f_X1_evenAfter R M (R a0 4) (R a0 8) (R a0 2) x1 x2) fun r4 M5 =>
        some (r4, M5)
      ) else (
        some ((-1 : Int32), M)
      )
    )
  )
def f_X11_soonest (R : zR) (M : zM) (a0 : Nat) (x1 : Int32) : Option (Int32 × zM) :=
  if 0 ≤ x1 then (
    zbd2 (f_X1_soonestSharing R M (R a0 4) (R a0 8) (R a0 2) x1) fun r2 M3 =>
    some (r2, M3)
  ) else (
    some ((-1 : Int32), M)
  )
def f_X11_start (R : zR) (M : zM) (a0 : Nat) (x1 : Int32) (x2 : Int32) : Option (Int32 × zM) :=
  zbd (f_X6_has M (R a0 2) x1) fun r1 =>
  if r1 = 0 then (
    some ((-1 : Int32), M)
  ) else (
    if x2 < 0 then (
      some ((-1 : Int32), M)
    ) else (
      if x2 ≤ (1 : Int32) then (
        zbd (f_X0_findStart R M (R a0 5) (R a0 8) (R a0 2) x1) fun M6 =>
        if x2 = 0 then (
          some ((M6 (R a0 5) 2), M6)
        ) else (
          some ((M6 (R a0 5) 3), M6)
        )
      ) else (
        some ((-1 : Int32), M)
      )
    )
  )
def f_X11_wealth (R : zR) (M : zM) (a0 : Nat) (x1 : Int32) (x2 : Int32) (x3 : Int32) : Option (Int32 × zM) :=
  zbd (f_X6_has M (R a0 2) x1) fun r1 =>
  if r1 = 0 then (
    some ((-1000000 : Int32), M)
  ) else (
    zbd (f_X6_has M (R a0 2) x2) fun r4 =>
    if r4 = 0 then (
      some ((-1000000 : Int32), M)
    ) else (
      if x3 < 0 then (
        some ((-1000000 : Int32), M)
      ) else (
        zbd (f_X6_shown R M (R a0 2) x1) fun r8 =>
        if x3 ≤ r8 then (
          zbd2 (f_X0_lessPaid R M (R a0 5) (R a0 8) (R a0 2) x1 x2 x3) fun r11 M12 =>
          some (r11, M12)
        ) else (
          some ((-1000000 : Int32), M)
        )
      )
    )
  )
def f_X11_free (R : zR) (M : zM) (a0 : Nat) (x1 : Int32) (x2 : Int32) : Option (Int32 × zM) :=
  zbd (f_X6_has M (R a0 2) x1) fun r1 =>
  if r1 = 0 then (
    some ((-1 : Int32), M)
  ) else (
    if x2 < 0 then (
      some ((-1 : Int32), M)
    ) else (
      if x2 ≤ (1 : Int32) then (
        zbd (f_X0_findLeastGift R M (R a0 5) (R a0 8) (R a0 2) x1) fun M6 =>
        if x2 = 0 then (
          some ((M6 (R a0 5) 1), M6)
        ) else (
          some ((M6 (R a0 5) 2), M6)
        )
      ) else (
        some ((-1 : Int32), M)
      )
    )
  )
def f_X11_best (R : zR) (M : zM) (a0 : Nat) (x1 : Int32) (x2 : Int32) (x3 : Int32) (x4 : Int32) : Option (Int32 × zM) :=
  zbd (f_X6_has M (R a0 2) x1) fun r1 =>
  if r1 = 0 then (
    some ((-1 : Int32), M)
  ) else (
    zbd (f_X11_isUnit x2) fun r4 =>
    if r4 = 0 then (
      some ((-1 : Int32), M)
    ) else (
      if x3 < (1 : Int32) then (
        some ((-1 : Int32), M)
      ) else (
        if x3 ≤ (30 : Int32) then (
          if x4 < 0 then (
            some ((-1 : Int32), M)
          ) else (
            if x4 ≤ (2 : Int32) then (
              zbd (f_X0_findBestGift R M (R a0 5) (R a0 8) (R a0 2) x1 x2 x3) fun M11 =>
              if x4 = 0 then (
                some ((M11 (R a0 5) 1), M11)
              ) else (
                if x4 = (1 : Int32) then (
                  some ((M11 (R a0 5) 2), M11)
                ) else (
                  some ((M11 (R a0 5) 3), M11)
                )
              )
            ) else (
              some ((-1 : Int32), M)
            )
          )
        ) else (
          some ((-1 : Int32), M)
        )
      )
    )
  )
def f_X11_loan (R : zR) (M : zM) (a0 : Nat) (x1 : Int32) (x2 : Int32) (x3 : Int32) (x4 : Int32) : Option (Int32 × zM) :=
  zbd (f_X6_has M (R a0 2) x1) fun r1 =>
  if r1 = 0 then (
    some ((-1000000 : Int32), M)
  ) else (
    zbd (f_X6_has M (R a0 2) x2) fun r4 =>
    if r4 = 0 then (
      some ((-1000000 : Int32), M)
    ) else (
      if x1 = x2 then (
        some ((-1000000 : Int32), M)
      ) else (
        if x3 < (1 : Int32) then (
          some ((-1000000 : Int32), M)
        ) else (
          zbd (f_X6_shown R M (R a0 2) x1) fun r9 =>
          if x3 ≤ r9 then (
            zbd2 (f_X0_rate R M (R a0 5) (R a0 8) (R a0 2) x1 x2 x3 x4) fun r12 M13 =>
            some (r12, M13)
          ) else (
            some ((-1000000 : Int32), M)
          )
        )
      )
    )
  )
def f_X11_site (R : zR) (M : zM) (a0 : Nat) (x1 : Int32) : Option (Int32 × zM) :=
  zbd (f_X11_isPurse x1) fun r1 =>
  if r1 = 0 then (
    some ((-1 : Int32), M)
  ) else (
    zbd (f_X6_isFull M (R a0 2)) fun r4 =>
    if r4 = 0 then (
      zbd2 (f_X0_bestSite R M (R a0 5) (R a0 8) (R a0 2) x1) fun r7 M8 =>
      some (r7, M8)
    ) else (
      some ((-2 : Int32), M)
    )
  )
def f_X11_rests (R : zR) (M : zM) (a0 : Nat) (x1 : Int32) (x2 : Int32) : Option (Int32 × zM) :=
  zbd (f_X11_isUnit x1) fun r1 =>
  if r1 = 0 then (
    some ((-1 : Int32), M)
  ) else (
    if (-1 : Int32) ≤ x2 then (
      if (M (R a0 2) 4) ≤ (8 : Int32) then (
        zbd2 (f_X4_restAt R M (R a0 6) (R a0 8) (R a0 2) x1 x2) fun r6 M7 =>
        some (r6, M7)
      ) else (
        some ((-2 : Int32), M)
      )
    ) else (
      some ((-1 : Int32), M)
    )
  )
def f_X11_fits (R : zR) (M : zM) (a0 : Nat) (x1 : Int32) (x2 : Int32) : Option (Int32 × zM) :=
  zbd (f_X11_isInRow x1) fun r1 =>
  if r1 = 0 then (
    some ((-1 : Int32), M)
  ) else (
    if x2 < 0 then (
      some ((-1 : Int32), M)
    ) else (
      if x2 ≤ (M (R a0 7) 6) then (
        zbd (f_X10_rowsUpTo (R a0 7) x1 (M (R a0 2) 4)) fun r6 =>
        if r6 ≤ (200000 : Int32) then (
          zbd (f_X10_goThroughFits R M (R a0 7) (R a0 8) (R a0 2) x1 x2 (0 : Int32)) fun M9 =>
          some ((M9 (R a0 7) 8), M9)
        ) else (
          some ((-2 : Int32), M)
        )
      ) else (
        some ((-1 : Int32), M)
      )
    )
  )
def f_X11_span (R : zR) (M : zM) (a0 : Nat) (x1 : Int32) (x2 : Int32) (x3 : Int32) : Option (Int32 × zM) :=
  zbd (f_X11_isInRow x1) fun r1 =>
  if r1 = 0 then (
    some ((-1 : Int32), M)
  ) else (
    if x2 < 0 then (
      some ((-1 : Int32), M)
    ) else (
      if (M (R a0 7) 6) < x2 then (
        some ((-1 : Int32), M)
      ) else (
        zbd (f_X6_has M (R a0 2) x3) fun r6 =>
        if r6 = 0 then (
          some ((-1 : Int32), M)
        ) else (
          zbd (f_X10_rowsUpTo (R a0 7) x1 (M (R a0 2) 4)) fun r9 =>
          if r9 ≤ (200000 : Int32) then (
            zbd (f_X10_goThroughFits R M (R a0 7) (R a0 8) (R a0 2) x1 x2 x3) fun M12 =>
            if (M12 (R a0 7) 8) = 0 then (
              some ((-2 : Int32), M12)
            ) else (
              some ((((100 : Int32) * (M12 (R a0 7) 9)) + (M12 (R a0 7) 10)), M12)
            )
          ) else (
            some ((-2 : Int32), M)
          )
        )
      )
    )
  )
def f_X11_ago (R : zR) (M : zM) (a0 : Nat) (x1 : Int32) : Option (Int32 × zM) :=
  zbd (f_X11_isInRow x1) fun r1 =>
  if r1 = 0 then (
    some ((-1 : Int32), M)
  ) else (
    zbd (f_X10_rowsUpTo (R a0 7) x1 (M (R a0 2) 4)) fun r4 =>
    if r4 ≤ (200000 : Int32) then (
      zbd (f_X10_goThroughAgo R M (R a0 7) (R a0 8) (R a0 2) x1) fun M7 =>
      some ((M7 (R a0 7) 8), M7)
    ) else (
      some ((-2 : Int32), M)
    )
  )
def f_X11_hold (R : zR) (M : zM) (a0 : Nat) (x1 : Int32) : Option (Int32 × zM) :=
  zbd2 (f_X2_holdIn R M (R a0 3) x1 (R a0 2)) fun r1 M2 =>
  zck (zbool r1) <|
  some (r1, M2)
def f_X11_restore (R : zR) (M : zM) (a0 : Nat) (x1 : Int32) : Option (Int32 × zM) :=
  zbd2 (f_X2_bringBack R M (R a0 3) x1 (R a0 2)) fun r1 M2 =>
  if r1 = 0 then (
    some ((0 : Int32), M2)
  ) else (
    zbd (f_X2_forgetPast M2 (R a0 3)) fun M5 =>
    some ((1 : Int32), M5)
  )

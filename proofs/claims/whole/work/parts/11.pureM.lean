/-- TopYardModel.in(JJJ)Z -/
def f_M_in (x0 : Int64) (x2 : Int64) (x4 : Int64) : Option (Int32) :=
  if x0 < x2 then (
    some 0
  ) else (
    if x4 < x0 then (
      some 0
    ) else (
      some 1
    )
  )
/-- TopYardModel.c(I)I -/
def f_M_c (μ : Mem) (x1 : Int32) : Option (Int32) :=
  if ib (x1 - x1 / 36 * 36) 36 then
    some (gI μ 1 (ix (x1 - x1 / 36 * 36)))
  else none
/-- TopYardModel.s(I)I -/
def f_M_s (μ : Mem) (x1 : Int32) : Option (Int32) :=
  if ib ((x1 + 27) - (x1 + 27) / 36 * 36) 36 then
    some (gI μ 1 (ix ((x1 + 27) - (x1 + 27) / 36 * 36)))
  else none
/-- TopYardModel.turn(II)I -/
def f_M_turn (μ : Mem) (x1 : Int32) (x2 : Int32) : Option (Int32) :=
  Option.bind (f_M_in (x1.toInt64) 0 35) (fun v1 =>
    if v1 = 0 then (
      some (-1000)
    ) else (
      Option.bind (f_M_in (x2.toInt64) 0 1) (fun v2 =>
        if ¬ v2 = 0 then (
          if ¬ x2 = 0 then (
            Option.bind (f_M_s μ x1) (fun v3 =>
              some v3
            )
          ) else (
            Option.bind (f_M_c μ x1) (fun v5 =>
              some v5
            )
          )
        ) else (
          some (-1000)
        )
      )
    )
  )
/-- TopYardModel.isTop(I)Z -/
def f_M_isTop (μ : Mem) (x1 : Int32) : Option (Int32) :=
  Option.bind (f_M_in (x1.toInt64) 0 (((gI μ 0 1) - 1).toInt64)) (fun v1 =>
    if v1 = 0 ∨ v1 = 1 then some v1 else none
  )
/-- TopYardModel.isOwner(I)Z -/
def f_M_isOwner (x0 : Int32) : Option (Int32) :=
  Option.bind (f_M_in (x0.toInt64) 0 7) (fun v1 =>
    if v1 = 0 ∨ v1 = 1 then some v1 else none
  )
/-- TopYardModel.top(IIIII)I -/
def f_M_top_b48 (x1 : Int32) (x2 : Int32) (x3 : Int32) (x4 : Int32) (x5 : Int32) (μ : Mem) : Option (Int32 × Mem) :=
  Option.bind (f_M_isOwner x5) (fun v1 =>
    if ¬ v1 = 0 then (
      if ¬ (gI μ 0 1) = (40 : Int32) then (
        if ib (gI μ 0 1) 40 then
          nm (sI μ 2 (ix (gI μ 0 1)) x1) (fun μ3 =>
            if ib (gI μ3 0 1) 40 then
              nm (sI μ3 3 (ix (gI μ3 0 1)) x2) (fun μ5 =>
                if ib (gI μ5 0 1) 40 then
                  nm (sI μ5 4 (ix (gI μ5 0 1)) x3) (fun μ7 =>
                    if ib (gI μ7 0 1) 40 then
                      nm (sI μ7 5 (ix (gI μ7 0 1)) x4) (fun μ9 =>
                        if ib (gI μ9 0 1) 40 then
                          nm (sI μ9 6 (ix (gI μ9 0 1)) x5) (fun μ11 =>
                            nm (sI μ11 0 1 ((gI μ11 0 1) + 1)) (fun μ12 =>
                              some (((gI μ12 0 1) - 1), μ12)
                            )
                          )
                        else none
                      )
                    else none
                  )
                else none
              )
            else none
          )
        else none
      ) else (
        some ((-4), μ)
      )
    ) else (
      some ((-2), μ)
    )
  )
def f_M_top (μ : Mem) (x1 : Int32) (x2 : Int32) (x3 : Int32) (x4 : Int32) (x5 : Int32) : Option (Int32 × Mem) :=
  Option.bind (f_M_in (x1.toInt64) 1 50) (fun v1 =>
    if v1 = 0 then (
      some ((-2), μ)
    ) else (
      Option.bind (f_M_in (x2.toInt64) 1 12) (fun v2 =>
        if v2 = 0 then (
          some ((-2), μ)
        ) else (
          Option.bind (f_M_in (x3.toInt64) 1 9) (fun v3 =>
            if v3 = 0 then (
              some ((-2), μ)
            ) else (
              if x4 = (1 : Int32) then (
                f_M_top_b48 x1 x2 x3 x4 x5 μ
              ) else (
                if ¬ x4 = (-1 : Int32) then (
                  some ((-2), μ)
                ) else (
                  f_M_top_b48 x1 x2 x3 x4 x5 μ
                )
              )
            )
          )
        )
      )
    )
  )
/-- TopYardModel.about(II)I -/
def f_M_about (μ : Mem) (x1 : Int32) (x2 : Int32) : Option (Int32) :=
  Option.bind (f_M_isTop μ x1) (fun v1 =>
    if ¬ v1 = 0 then (
      if x2 = 0 then (
        if ib x1 40 then
          some (gI μ 2 (ix x1))
        else none
      ) else
      if x2 = 1 then (
        if ib x1 40 then
          some (gI μ 3 (ix x1))
        else none
      ) else
      if x2 = 2 then (
        if ib x1 40 then
          some (gI μ 4 (ix x1))
        else none
      ) else
      if x2 = 3 then (
        if ib x1 40 then
          some (gI μ 5 (ix x1))
        else none
      ) else
      if x2 = 4 then (
        if ib x1 40 then
          some (gI μ 6 (ix x1))
        else none
      ) else
      if x2 = 5 then (
        if ib x1 40 then
          some (gI μ 7 (ix x1))
        else none
      ) else
      (
        some (-1000)
      )
    ) else (
      some (-1000)
    )
  )
/-- TopYardModel.wear(II)I -/
def f_M_wear (μ : Mem) (x1 : Int32) (x2 : Int32) : Option (Int32 × Mem) :=
  Option.bind (f_M_isTop μ x1) (fun v1 =>
    if v1 = 0 then (
      some ((-2), μ)
    ) else (
      Option.bind (f_M_in (x2.toInt64) 0 9) (fun v2 =>
        if ¬ v2 = 0 then (
          if ib x1 40 then
            nm (gI μ 7 (ix x1)) (fun v4 =>
              if ib x1 40 then
                nm (sI μ 7 (ix x1) x2) (fun μ6 =>
                  some (v4, μ6)
                )
              else none
            )
          else none
        ) else (
          some ((-2), μ)
        )
      )
    )
  )
/-- TopYardModel.give(II)I -/
def f_M_give (μ : Mem) (x1 : Int32) (x2 : Int32) : Option (Int32 × Mem) :=
  Option.bind (f_M_isTop μ x1) (fun v1 =>
    if v1 = 0 then (
      some ((-2), μ)
    ) else (
      Option.bind (f_M_isOwner x2) (fun v2 =>
        if ¬ v2 = 0 then (
          if ib x1 40 then
            nm (gI μ 6 (ix x1)) (fun v4 =>
              if ib x1 40 then
                nm (sI μ 6 (ix x1) x2) (fun μ6 =>
                  some (v4, μ6)
                )
              else none
            )
          else none
        ) else (
          some ((-2), μ)
        )
      )
    )
  )
/-- TopYardModel.bowl(II)I -/
def f_M_bowl_b30 (x1 : Int32) (x2 : Int32) (μ : Mem) : Option (Int32 × Mem) :=
  if ¬ x1 = (1 : Int32) then (
    some ((-2), μ)
  ) else (
    Option.bind (f_M_in (x2.toInt64) 0 30) (fun v1 =>
      if v1 = 0 then (
        some ((-2), μ)
      ) else (
        nm (gI μ 0 10) (fun v2 =>
          nm (sI μ 0 10 x2) (fun μ3 =>
            some (v2, μ3)
          )
        )
      )
    )
  )
def f_M_bowl (μ : Mem) (x1 : Int32) (x2 : Int32) : Option (Int32 × Mem) :=
  if ¬ x1 = 0 then (
    f_M_bowl_b30 x1 x2 μ
  ) else (
    Option.bind (f_M_in (x2.toInt64) 5 30) (fun v1 =>
      if v1 = 0 then (
        f_M_bowl_b30 x1 x2 μ
      ) else (
        nm (gI μ 0 9) (fun v2 =>
          nm (sI μ 0 9 x2) (fun μ3 =>
            some (v2, μ3)
          )
        )
      )
    )
  )
/-- TopYardModel.dent(III)I -/
def f_M_dent (μ : Mem) (x1 : Int32) (x2 : Int32) (x3 : Int32) : Option (Int32 × Mem) :=
  Option.bind (f_M_in (x1.toInt64) (-31) 31) (fun v1 =>
    if v1 = 0 then (
      some ((-2), μ)
    ) else (
      Option.bind (f_M_in (x2.toInt64) (-31) 31) (fun v2 =>
        if v2 = 0 then (
          some ((-2), μ)
        ) else (
          Option.bind (f_M_in (x3.toInt64) (-20) 20) (fun v3 =>
            if ¬ v3 = 0 then (
              if ¬ (gI μ 0 11) = (24 : Int32) then (
                if ib (gI μ 0 11) 24 then
                  nm (sI μ 9 (ix (gI μ 0 11)) x1) (fun μ5 =>
                    if ib (gI μ5 0 11) 24 then
                      nm (sI μ5 10 (ix (gI μ5 0 11)) x2) (fun μ7 =>
                        if ib (gI μ7 0 11) 24 then
                          nm (sI μ7 11 (ix (gI μ7 0 11)) x3) (fun μ9 =>
                            nm (sI μ9 0 11 ((gI μ9 0 11) + 1)) (fun μ10 =>
                              some ((gI μ10 0 11), μ10)
                            )
                          )
                        else none
                      )
                    else none
                  )
                else none
              ) else (
                some ((-4), μ)
              )
            ) else (
              some ((-2), μ)
            )
          )
        )
      )
    )
  )
/-- TopYardModel.smooth()I -/
def f_M_smooth (μ : Mem) : Option (Int32 × Mem) :=
  nm (gI μ 0 11) (fun v1 =>
    nm (sI μ 0 11 0) (fun μ2 =>
      some (v1, μ2)
    )
  )
/-- TopYardModel.heightOf(II)I -/
def f_M_heightOf_b56 (N : Nat) (μ : Mem) (k13 : Int32 → Int32 → Int32 → Int32 → Option (Int32)) (x1 : Int32) (x2 : Int32) (x4 : Int32) (xs0 : Int32) (xs1 : Int32) : Option (Int32) :=
  nm (xs1 + xs0) (fun v1 =>
    nm (x4 + 1) (fun v2 =>
      k13 x1 x2 v1 v2
    )
  )
def f_M_heightOf_b55 (N : Nat) (μ : Mem) (k13 : Int32 → Int32 → Int32 → Int32 → Option (Int32)) (x1 : Int32) (x2 : Int32) (x4 : Int32) (xs0 : Int32) : Option (Int32) :=
  f_M_heightOf_b56 N μ k13 x1 x2 x4 0 xs0
def f_M_heightOf_l13 (N : Nat) (μ : Mem) : Nat → Int32 → Int32 → Int32 → Int32 → Option (Int32)
  | 0, _, _, _, _ => none
  | n + 1, x1, x2, x3, x4 =>
    if (gI μ 0 11) ≤ x4 then (
      some x3
    ) else (
      if ib x4 24 then
        if ¬ (gI μ 9 (ix x4)) = x1 then (
          f_M_heightOf_b55 N μ (f_M_heightOf_l13 N μ n) x1 x2 x4 x3
        ) else (
          if ib x4 24 then
            if ¬ (gI μ 10 (ix x4)) = x2 then (
              f_M_heightOf_b55 N μ (f_M_heightOf_l13 N μ n) x1 x2 x4 x3
            ) else (
              if ib x4 24 then
                f_M_heightOf_b56 N μ (f_M_heightOf_l13 N μ n) x1 x2 x4 (gI μ 11 (ix x4)) x3
              else none
            )
          else none
        )
      else none
    )
def f_M_heightOf (N : Nat) (μ : Mem) (x1 : Int32) (x2 : Int32) : Option (Int32) :=
  nm (((x1 * x1) + (x2 * x2)) / 2) (fun v1 =>
    f_M_heightOf_l13 N μ N x1 x2 v1 0
  )
/-- TopYardModel.slopeX(II)I -/
def f_M_slopeX (N : Nat) (μ : Mem) (x1 : Int32) (x2 : Int32) : Option (Int32) :=
  Option.bind (f_M_heightOf N μ (x1 + 1) x2) (fun v1 =>
    Option.bind (f_M_heightOf N μ (x1 - 1) x2) (fun v2 =>
      some (v1 - v2)
    )
  )
/-- TopYardModel.slopeY(II)I -/
def f_M_slopeY (N : Nat) (μ : Mem) (x1 : Int32) (x2 : Int32) : Option (Int32) :=
  Option.bind (f_M_heightOf N μ x1 (x2 + 1)) (fun v1 =>
    Option.bind (f_M_heightOf N μ x1 (x2 - 1)) (fun v2 =>
      some (v1 - v2)
    )
  )
/-- TopYardModel.height(III)I -/
def f_M_height (N : Nat) (μ : Mem) (x1 : Int32) (x2 : Int32) (x3 : Int32) : Option (Int32) :=
  Option.bind (f_M_in (x1.toInt64) (-32) 32) (fun v1 =>
    if v1 = 0 then (
      some (-2147483648)
    ) else (
      Option.bind (f_M_in (x2.toInt64) (-32) 32) (fun v2 =>
        if v2 = 0 then (
          some (-2147483648)
        ) else (
          Option.bind (f_M_in (x3.toInt64) 0 2) (fun v3 =>
            if ¬ v3 = 0 then (
              if ¬ x3 = 0 then (
                if ¬ x3 = (1 : Int32) then (
                  Option.bind (f_M_slopeY N μ x1 x2) (fun v4 =>
                    some v4
                  )
                ) else (
                  Option.bind (f_M_slopeX N μ x1 x2) (fun v6 =>
                    some v6
                  )
                )
              ) else (
                Option.bind (f_M_heightOf N μ x1 x2) (fun v8 =>
                  some v8
                )
              )
            ) else (
              some (-2147483648)
            )
          )
        )
      )
    )
  )
/-- TopYardModel.string(II)I -/
def f_M_string (μ : Mem) (x1 : Int32) (x2 : Int32) : Option (Int32 × Mem) :=
  Option.bind (f_M_isOwner x1) (fun v1 =>
    if v1 = 0 then (
      some ((-2), μ)
    ) else (
      Option.bind (f_M_in (x2.toInt64) 0 200) (fun v2 =>
        if ¬ v2 = 0 then (
          if ib x1 8 then
            nm (gI μ 8 (ix x1)) (fun v4 =>
              if ib x1 8 then
                nm (sI μ 8 (ix x1) x2) (fun μ6 =>
                  some (v4, μ6)
                )
              else none
            )
          else none
        ) else (
          some ((-2), μ)
        )
      )
    )
  )
/-- TopYardModel.enter(IIIII)I -/
def f_M_enter_l68 (N : Nat) : Nat → Int32 → Int32 → Int32 → Int32 → Int32 → Int32 → Mem → Option (Int32 × Mem)
  | 0, _, _, _, _, _, _, _ => none
  | n + 1, x1, x2, x3, x4, x5, x6, μ =>
    if (gI μ 0 15) ≤ x6 then (
      if ¬ (gI μ 0 15) = (4 : Int32) then (
        if ib (gI μ 0 15) 4 then
          nm (sI μ 12 (ix (gI μ 0 15)) x1) (fun μ2 =>
            if ib (gI μ2 0 15) 4 then
              nm (sI μ2 13 (ix (gI μ2 0 15)) x2) (fun μ4 =>
                if ib (gI μ4 0 15) 4 then
                  nm (sI μ4 14 (ix (gI μ4 0 15)) x3) (fun μ6 =>
                    if ib (gI μ6 0 15) 4 then
                      nm (sI μ6 15 (ix (gI μ6 0 15)) x4) (fun μ8 =>
                        if ib (gI μ8 0 15) 4 then
                          nm (sI μ8 16 (ix (gI μ8 0 15)) x5) (fun μ10 =>
                            nm (sI μ10 0 15 ((gI μ10 0 15) + 1)) (fun μ11 =>
                              some (((gI μ11 0 15) - 1), μ11)
                            )
                          )
                        else none
                      )
                    else none
                  )
                else none
              )
            else none
          )
        else none
      ) else (
        some ((-4), μ)
      )
    ) else (
      if ib x6 4 then
        if ¬ (gI μ 12 (ix x6)) = x1 then (
          nm (x6 + 1) (fun v13 =>
            (f_M_enter_l68 N n) x1 x2 x3 x4 x5 v13 μ
          )
        ) else (
          some ((-2), μ)
        )
      else none
    )
def f_M_enter (N : Nat) (μ : Mem) (x1 : Int32) (x2 : Int32) (x3 : Int32) (x4 : Int32) (x5 : Int32) : Option (Int32 × Mem) :=
  Option.bind (f_M_isTop μ x1) (fun v1 =>
    if v1 = 0 then (
      some ((-2), μ)
    ) else (
      Option.bind (f_M_in (x2.toInt64) (-30) 30) (fun v2 =>
        if v2 = 0 then (
          some ((-2), μ)
        ) else (
          Option.bind (f_M_in (x3.toInt64) (-30) 30) (fun v3 =>
            if v3 = 0 then (
              some ((-2), μ)
            ) else (
              Option.bind (f_M_in (x4.toInt64) 0 35) (fun v4 =>
                if v4 = 0 then (
                  some ((-2), μ)
                ) else (
                  Option.bind (f_M_in (x5.toInt64) 1 60) (fun v5 =>
                    if ¬ v5 = 0 then (
                      f_M_enter_l68 N N x1 x2 x3 x4 x5 0 μ
                    ) else (
                      some ((-2), μ)
                    )
                  )
                )
              )
            )
          )
        )
      )
    )
  )
/-- TopYardModel.clear()I -/
def f_M_clear (μ : Mem) : Option (Int32 × Mem) :=
  nm (gI μ 0 15) (fun v1 =>
    nm (sI μ 0 15 0) (fun μ2 =>
      nm (sI μ2 0 21 0) (fun μ3 =>
        some (v1, μ3)
      )
    )
  )
/-- TopYardModel.whip(III)I -/
def f_M_whip (μ : Mem) (x1 : Int32) (x2 : Int32) (x3 : Int32) : Option (Int32 × Mem) :=
  Option.bind (f_M_in (x1.toInt64) 0 3) (fun v1 =>
    if v1 = 0 then (
      some ((-2), μ)
    ) else (
      Option.bind (f_M_in (x2.toInt64) 1 400) (fun v2 =>
        if v2 = 0 then (
          some ((-2), μ)
        ) else (
          Option.bind (f_M_in (x3.toInt64) 1 100) (fun v3 =>
            if ¬ v3 = 0 then (
              if ¬ (gI μ 0 21) = (8 : Int32) then (
                if ib (gI μ 0 21) 8 then
                  nm (sI μ 17 (ix (gI μ 0 21)) x1) (fun μ5 =>
                    if ib (gI μ5 0 21) 8 then
                      nm (sI μ5 18 (ix (gI μ5 0 21)) x2) (fun μ7 =>
                        if ib (gI μ7 0 21) 8 then
                          nm (sI μ7 19 (ix (gI μ7 0 21)) x3) (fun μ9 =>
                            nm (sI μ9 0 21 ((gI μ9 0 21) + 1)) (fun μ10 =>
                              some ((gI μ10 0 21), μ10)
                            )
                          )
                        else none
                      )
                    else none
                  )
                else none
              ) else (
                some ((-4), μ)
              )
            ) else (
              some ((-2), μ)
            )
          )
        )
      )
    )
  )
/-- TopYardModel.begins(IIIIII)V -/
def f_M_begins_b186 (x1 : Int32) (xs0 : Int32) (xs1 : Int32) (μ : Mem) : Option (Mem) :=
  if ib xs1 4 then
    nm (sI μ 27 (ix xs1) xs0) (fun μ2 =>
      if ib x1 4 then
        nm (sI μ2 28 (ix x1) 0) (fun μ4 =>
          some μ4
        )
      else none
    )
  else none
def f_M_begins_b66 (x1 : Int32) (x2 : Int32) (x3 : Int32) (x4 : Int32) (x5 : Int32) (xs0 : Int32) (μ : Mem) : Option (Mem) :=
  if ib x1 4 then
    nm (sI μ 20 (ix x1) x2) (fun μ2 =>
      if ib x1 4 then
        nm (sL μ2 21 (ix x1) ((65 : Int64) * x3.toInt64)) (fun μ4 =>
          if ib x1 4 then
            nm (sL μ4 22 (ix x1) ((65 : Int64) * x4.toInt64)) (fun μ6 =>
              if ib x1 4 then
                nm (sI μ6 23 (ix x1) x5) (fun μ8 =>
                  if ib x2 40 then
                    Option.bind (f_M_c μ8 x5) (fun v10 =>
                      if ib x1 4 then
                        nm (sL μ8 24 (ix x1) (((gI μ8 2 (ix x2)).toInt64) * v10.toInt64)) (fun μ12 =>
                          if ib x2 40 then
                            Option.bind (f_M_s μ12 x5) (fun v14 =>
                              if ib x1 4 then
                                nm (sL μ12 25 (ix x1) (((gI μ12 2 (ix x2)).toInt64) * v14.toInt64)) (fun μ16 =>
                                  if ib x1 4 then
                                    nm (sI μ16 26 (ix x1) ((10 : Int32) * xs0)) (fun μ18 =>
                                      if ib x2 40 then
                                        if (4 : Int32) ≤ (gI μ18 7 (ix x2)) then (
                                          f_M_begins_b186 x1 4 x1 μ18
                                        ) else (
                                          if ib x2 40 then
                                            f_M_begins_b186 x1 (gI μ18 7 (ix x2)) x1 μ18
                                          else none
                                        )
                                      else none
                                    )
                                  else none
                                )
                              else none
                            )
                          else none
                        )
                      else none
                    )
                  else none
                )
              else none
            )
          else none
        )
      else none
    )
  else none
def f_M_begins_b32 (x1 : Int32) (x2 : Int32) (x3 : Int32) (x4 : Int32) (x5 : Int32) (xs0 : Int32) (μ : Mem) : Option (Mem) :=
  if ib x2 40 then
    if ib (gI μ 6 (ix x2)) 8 then
      if xs0 ≤ (gI μ 8 (ix (gI μ 6 (ix x2)))) then (
        f_M_begins_b66 x1 x2 x3 x4 x5 xs0 μ
      ) else (
        if ib x2 40 then
          if ib (gI μ 6 (ix x2)) 8 then
            f_M_begins_b66 x1 x2 x3 x4 x5 (gI μ 8 (ix (gI μ 6 (ix x2)))) μ
          else none
        else none
      )
    else none
  else none
def f_M_begins (μ : Mem) (x1 : Int32) (x2 : Int32) (x3 : Int32) (x4 : Int32) (x5 : Int32) (x6 : Int32) : Option (Mem) :=
  if ib x2 40 then
    if ((40 : Int32) - ((2 : Int32) * (gI μ 4 (ix x2)))) ≤ x6 then (
      if ib x2 40 then
        f_M_begins_b32 x1 x2 x3 x4 x5 ((40 : Int32) - ((2 : Int32) * (gI μ 4 (ix x2)))) μ
      else none
    ) else (
      f_M_begins_b32 x1 x2 x3 x4 x5 x6 μ
    )
  else none
/-- TopYardModel.standing()I -/
def f_M_standing_b27 (N : Nat) (μ : Mem) (k4 : Int32 → Int32 → Option (Int32)) (x2 : Int32) (xs0 : Int32) (xs1 : Int32) : Option (Int32) :=
  nm (xs1 + xs0) (fun v1 =>
    nm (x2 + 1) (fun v2 =>
      k4 v1 v2
    )
  )
def f_M_standing_l4 (N : Nat) (μ : Mem) : Nat → Int32 → Int32 → Option (Int32)
  | 0, _, _ => none
  | n + 1, x1, x2 =>
    if (gI μ 0 25) ≤ x2 then (
      some x1
    ) else (
      if ib x2 4 then
        if ¬ (gI μ 28 (ix x2)) = 0 then (
          f_M_standing_b27 N μ (f_M_standing_l4 N μ n) x2 0 x1
        ) else (
          f_M_standing_b27 N μ (f_M_standing_l4 N μ n) x2 1 x1
        )
      else none
    )
def f_M_standing (N : Nat) (μ : Mem) : Option (Int32) :=
  f_M_standing_l4 N μ N 0 0
/-- TopYardModel.floor65(J)I -/
def f_M_floor65 (x0 : Int64) : Option (Int32) :=
  if (0 : Int64) ≤ x0 then (
    some ((x0 / 65).toInt32)
  ) else (
    some ((-(((64 : Int64) - x0) / 65)).toInt32)
  )
/-- TopYardModel.moves()V -/
def f_M_moves_b82 (N : Nat) (k2 : Int32 → Mem → Option (Mem)) (x1 : Int32) (μ : Mem) : Option (Mem) :=
  nm (x1 + 1) (fun v1 =>
    k2 v1 μ
  )
def f_M_moves_b81 (N : Nat) (k2 : Int32 → Mem → Option (Mem)) (x1 : Int32) (xs0 : Int32) (xs1 : Int32) (μ : Mem) : Option (Mem) :=
  if ib xs1 4 then
    nm (sI μ 26 (ix xs1) xs0) (fun μ2 =>
      f_M_moves_b82 N k2 x1 μ2
    )
  else none
def f_M_moves_b179 (N : Nat) (k90 : Int32 → Mem → Option (Mem)) (x1 : Int32) (μ : Mem) : Option (Mem) :=
  nm (x1 + 1) (fun v1 =>
    k90 v1 μ
  )
def f_M_moves_b154 (N : Nat) (k90 : Int32 → Mem → Option (Mem)) (x1 : Int32) (xs0 : Int32) (xs1 : Int32) (μ : Mem) : Option (Mem) :=
  if ib xs1 4 then
    nm (sI μ 27 (ix xs1) xs0) (fun μ2 =>
      f_M_moves_b179 N k90 x1 μ2
    )
  else none
def f_M_moves_b388 (N : Nat) (k187 : Int32 → Mem → Option (Mem)) (x1 : Int32) (μ : Mem) : Option (Mem) :=
  nm (x1 + 1) (fun v1 =>
    k187 v1 μ
  )
def f_M_moves_b451 (N : Nat) (k396 : Int32 → Mem → Option (Mem)) (x1 : Int32) (μ : Mem) : Option (Mem) :=
  nm (x1 + 1) (fun v1 =>
    k396 v1 μ
  )
def f_M_moves_b532 (N : Nat) (k459 : Int32 → Mem → Option (Mem)) (x1 : Int32) (μ : Mem) : Option (Mem) :=
  nm (x1 + 1) (fun v1 =>
    k459 v1 μ
  )
def f_M_moves_b610 (N : Nat) (k540 : Int32 → Mem → Option (Mem)) (x1 : Int32) (μ : Mem) : Option (Mem) :=
  nm (x1 + 1) (fun v1 =>
    k540 v1 μ
  )
def f_M_moves_l540 (N : Nat) : Nat → Int32 → Mem → Option (Mem)
  | 0, _, _ => none
  | n + 1, x1, μ =>
    if (gI μ 0 25) ≤ x1 then (
      some μ
    ) else (
      if ib x1 4 then
        if ¬ (gI μ 28 (ix x1)) = 0 then (
          f_M_moves_b610 N (f_M_moves_l540 N n) x1 μ
        ) else (
          if ib x1 4 then
            if ib x1 4 then
              if ib x1 4 then
                if ib x1 4 then
                  if (((gL μ 21 (ix x1)) * (gL μ 21 (ix x1))) + ((gL μ 22 (ix x1)) * (gL μ 22 (ix x1)))) ≤ (((4225 : Int64) * (gI μ 0 9).toInt64) * (gI μ 0 9).toInt64) then (
                    f_M_moves_b610 N (f_M_moves_l540 N n) x1 μ
                  ) else (
                    if ib x1 4 then
                      nm (sI μ 28 (ix x1) 1) (fun μ7 =>
                        f_M_moves_b610 N (f_M_moves_l540 N n) x1 μ7
                      )
                    else none
                  )
                else none
              else none
            else none
          else none
        )
      else none
    )
def f_M_moves_l459 (N : Nat) : Nat → Int32 → Mem → Option (Mem)
  | 0, _, _ => none
  | n + 1, x1, μ =>
    if (gI μ 0 25) ≤ x1 then (
      f_M_moves_l540 N N 0 μ
    ) else (
      if ib x1 4 then
        if ¬ (gI μ 28 (ix x1)) = 0 then (
          f_M_moves_b532 N (f_M_moves_l459 N n) x1 μ
        ) else (
          if ib x1 4 then
            if ib x1 4 then
              if ib x1 4 then
                if ib (gI μ 20 (ix x1)) 40 then
                  if (gI μ 2 (ix (gI μ 20 (ix x1)))).toInt64 = 0 then none else
                  if ib x1 4 then
                    nm (sL μ 21 (ix x1) ((gL μ 21 (ix x1)) + ((gL μ 24 (ix x1)) / (gI μ 2 (ix (gI μ 20 (ix x1)))).toInt64))) (fun μ7 =>
                      if ib x1 4 then
                        if ib x1 4 then
                          if ib x1 4 then
                            if ib (gI μ7 20 (ix x1)) 40 then
                              if (gI μ7 2 (ix (gI μ7 20 (ix x1)))).toInt64 = 0 then none else
                              if ib x1 4 then
                                nm (sL μ7 22 (ix x1) ((gL μ7 22 (ix x1)) + ((gL μ7 25 (ix x1)) / (gI μ7 2 (ix (gI μ7 20 (ix x1)))).toInt64))) (fun μ13 =>
                                  f_M_moves_b532 N (f_M_moves_l459 N n) x1 μ13
                                )
                              else none
                            else none
                          else none
                        else none
                      else none
                    )
                  else none
                else none
              else none
            else none
          else none
        )
      else none
    )
def f_M_moves_l396 (N : Nat) : Nat → Int32 → Mem → Option (Mem)
  | 0, _, _ => none
  | n + 1, x1, μ =>
    if (gI μ 0 25) ≤ x1 then (
      f_M_moves_l459 N N 0 μ
    ) else (
      if ib x1 4 then
        if ¬ (gI μ 28 (ix x1)) = 0 then (
          f_M_moves_b451 N (f_M_moves_l396 N n) x1 μ
        ) else (
          if ib x1 4 then
            if ib x1 4 then
              if ib x1 4 then
                nm (sL μ 24 (ix x1) ((gL μ 24 (ix x1)) - ((gL μ 24 (ix x1)) / 16))) (fun μ5 =>
                  if ib x1 4 then
                    if ib x1 4 then
                      if ib x1 4 then
                        nm (sL μ5 25 (ix x1) ((gL μ5 25 (ix x1)) - ((gL μ5 25 (ix x1)) / 16))) (fun μ9 =>
                          f_M_moves_b451 N (f_M_moves_l396 N n) x1 μ9
                        )
                      else none
                    else none
                  else none
                )
              else none
            else none
          else none
        )
      else none
    )
def f_M_moves_l187 (N : Nat) : Nat → Int32 → Mem → Option (Mem)
  | 0, _, _ => none
  | n + 1, x1, μ =>
    if (gI μ 0 25) ≤ x1 then (
      f_M_moves_l396 N N 0 μ
    ) else (
      if ib x1 4 then
        if ¬ (gI μ 28 (ix x1)) = 0 then (
          f_M_moves_b388 N (f_M_moves_l187 N n) x1 μ
        ) else (
          if ib x1 4 then
            if ib (gI μ 20 (ix x1)) 40 then
              nm (gI μ 2 (ix (gI μ 20 (ix x1)))) (fun v4 =>
                if ib x1 4 then
                  Option.bind (f_M_floor65 (gL μ 21 (ix x1))) (fun v6 =>
                    if ib x1 4 then
                      Option.bind (f_M_floor65 (gL μ 22 (ix x1))) (fun v8 =>
                        if ib x1 4 then
                          Option.bind (f_M_slopeX N μ v6 v8) (fun v10 =>
                            if ib x1 4 then
                              nm (sL μ 24 (ix x1) ((gL μ 24 (ix x1)) - (((2 : Int64) * v4.toInt64) * v10.toInt64))) (fun μ12 =>
                                if ib x1 4 then
                                  Option.bind (f_M_slopeY N μ12 v6 v8) (fun v14 =>
                                    if ib x1 4 then
                                      nm (sL μ12 25 (ix x1) ((gL μ12 25 (ix x1)) - (((2 : Int64) * v4.toInt64) * v14.toInt64))) (fun μ16 =>
                                        if ib x1 4 then
                                          if ib x1 4 then
                                            if ib (gI μ16 20 (ix x1)) 40 then
                                              if ib x1 4 then
                                                if ib x1 4 then
                                                  nm (sI μ16 23 (ix x1) ((((gI μ16 23 (ix x1)) + ((gI μ16 5 (ix (gI μ16 20 (ix x1)))) * ((1 : Int32) + (gI μ16 27 (ix x1))))) + 36) - (((gI μ16 23 (ix x1)) + ((gI μ16 5 (ix (gI μ16 20 (ix x1)))) * ((1 : Int32) + (gI μ16 27 (ix x1))))) + 36) / 36 * 36)) (fun μ22 =>
                                                    if ib x1 4 then
                                                      if ib x1 4 then
                                                        if ib x1 4 then
                                                          Option.bind (f_M_c μ22 (gI μ22 23 (ix x1))) (fun v26 =>
                                                            if ib x1 4 then
                                                              nm (sL μ22 24 (ix x1) ((gL μ22 24 (ix x1)) + (((v4 * (gI μ22 27 (ix x1))) * v26) / 65).toInt64)) (fun μ28 =>
                                                                if ib x1 4 then
                                                                  if ib x1 4 then
                                                                    if ib x1 4 then
                                                                      Option.bind (f_M_s μ28 (gI μ28 23 (ix x1))) (fun v32 =>
                                                                        if ib x1 4 then
                                                                          nm (sL μ28 25 (ix x1) ((gL μ28 25 (ix x1)) + (((v4 * (gI μ28 27 (ix x1))) * v32) / 65).toInt64)) (fun μ34 =>
                                                                            f_M_moves_b388 N (f_M_moves_l187 N n) x1 μ34
                                                                          )
                                                                        else none
                                                                      )
                                                                    else none
                                                                  else none
                                                                else none
                                                              )
                                                            else none
                                                          )
                                                        else none
                                                      else none
                                                    else none
                                                  )
                                                else none
                                              else none
                                            else none
                                          else none
                                        else none
                                      )
                                    else none
                                  )
                                else none
                              )
                            else none
                          )
                        else none
                      )
                    else none
                  )
                else none
              )
            else none
          else none
        )
      else none
    )
def f_M_moves_l90 (N : Nat) : Nat → Int32 → Mem → Option (Mem)
  | 0, _, _ => none
  | n + 1, x1, μ =>
    if (gI μ 0 25) ≤ x1 then (
      f_M_moves_l187 N N 0 μ
    ) else (
      if ib x1 4 then
        if ¬ (gI μ 28 (ix x1)) = 0 then (
          f_M_moves_b179 N (f_M_moves_l90 N n) x1 μ
        ) else (
          if ib x1 4 then
            if ib x1 4 then
              if (gI μ 26 (ix x1)) < ((100 : Int32) + ((10 : Int32) * (gI μ 27 (ix x1)))) then (
                if ib x1 4 then
                  if (50 : Int32) ≤ (gI μ 26 (ix x1)) then (
                    f_M_moves_b179 N (f_M_moves_l90 N n) x1 μ
                  ) else (
                    if ib x1 4 then
                      if ib x1 4 then
                        nm (sI μ 27 (ix x1) ((gI μ 27 (ix x1)) + 1)) (fun μ7 =>
                          f_M_moves_b179 N (f_M_moves_l90 N n) x1 μ7
                        )
                      else none
                    else none
                  )
                else none
              ) else (
                if ib x1 4 then
                  if (gI μ 27 (ix x1)) ≤ 0 then (
                    f_M_moves_b154 N (f_M_moves_l90 N n) x1 0 x1 μ
                  ) else (
                    if ib x1 4 then
                      f_M_moves_b154 N (f_M_moves_l90 N n) x1 ((gI μ 27 (ix x1)) - 1) x1 μ
                    else none
                  )
                else none
              )
            else none
          else none
        )
      else none
    )
def f_M_moves_l2 (N : Nat) : Nat → Int32 → Mem → Option (Mem)
  | 0, _, _ => none
  | n + 1, x1, μ =>
    if (gI μ 0 25) ≤ x1 then (
      f_M_moves_l90 N N 0 μ
    ) else (
      if ib x1 4 then
        if ¬ (gI μ 28 (ix x1)) = 0 then (
          f_M_moves_b82 N (f_M_moves_l2 N n) x1 μ
        ) else (
          if ib x1 4 then
            if ib (gI μ 20 (ix x1)) 40 then
              if ib x1 4 then
                if ib (gI μ 20 (ix x1)) 40 then
                  if ib x1 4 then
                    nm (((1 : Int32) + (((gI μ 4 (ix (gI μ 20 (ix x1)))) + (gI μ 7 (ix (gI μ 20 (ix x1))))) / 4)) + (gI μ 27 (ix x1))) (fun v7 =>
                      if ib x1 4 then
                        if (gI μ 26 (ix x1)) ≤ v7 then (
                          f_M_moves_b81 N (f_M_moves_l2 N n) x1 0 x1 μ
                        ) else (
                          if ib x1 4 then
                            f_M_moves_b81 N (f_M_moves_l2 N n) x1 ((gI μ 26 (ix x1)) - v7) x1 μ
                          else none
                        )
                      else none
                    )
                  else none
                else none
              else none
            else none
          else none
        )
      else none
    )
def f_M_moves (N : Nat) (μ : Mem) : Option (Mem) :=
  f_M_moves_l2 N N 0 μ
/-- TopYardModel.knock(II)V -/
def f_M_knock_b514 (xs0 : Int32) (xs1 : Int32) (μ : Mem) : Option (Mem) :=
  if ib xs1 4 then
    nm (sI μ 26 (ix xs1) xs0) (fun μ2 =>
      some μ2
    )
  else none
def f_M_knock_b497 (x2 : Int32) (x20 : Int32) (xs0 : Int32) (xs1 : Int32) (μ : Mem) : Option (Mem) :=
  if ib xs1 4 then
    nm (sI μ 26 (ix xs1) xs0) (fun μ2 =>
      if x20 ≤ 0 then (
        f_M_knock_b514 0 x2 μ2
      ) else (
        f_M_knock_b514 x20 x2 μ2
      )
    )
  else none
def f_M_knock_b451 (x1 : Int32) (x2 : Int32) (x17 : Int32) (xs0 : Int32) (μ : Mem) : Option (Mem) :=
  if ib x1 4 then
    nm (((gI μ 26 (ix x1)) - x17) - xs0) (fun v2 =>
      if ib x2 4 then
        nm (((gI μ 26 (ix x2)) + x17) - xs0) (fun v4 =>
          if v2 ≤ 0 then (
            f_M_knock_b497 x2 v4 0 x1 μ
          ) else (
            f_M_knock_b497 x2 v4 v2 x1 μ
          )
        )
      else none
    )
  else none
def f_M_knock_b403 (x1 : Int32) (x2 : Int32) (μ : Mem) : Option (Mem) :=
  if ib x1 4 then
    if ib x2 4 then
      nm (((gI μ 26 (ix x1)) - (gI μ 26 (ix x2))) / 8) (fun v3 =>
        if ib x1 4 then
          if ib (gI μ 20 (ix x1)) 40 then
            if ib x2 4 then
              if ib (gI μ 20 (ix x2)) 40 then
                if ¬ (gI μ 5 (ix (gI μ 20 (ix x1)))) = (gI μ 5 (ix (gI μ 20 (ix x2)))) then (
                  f_M_knock_b451 x1 x2 v3 3 μ
                ) else (
                  f_M_knock_b451 x1 x2 v3 1 μ
                )
              else none
            else none
          else none
        else none
      )
    else none
  else none
def f_M_knock_b76 (x1 : Int32) (x2 : Int32) (x3 : Int64) (x5 : Int64) (x7 : Int64) (x9 : Int64) (μ : Mem) : Option (Mem) :=
  nm ((x7 * x7) + (x9 * x9)) (fun v1 =>
    if ib x1 4 then
      if ib (gI μ 20 (ix x1)) 40 then
        if ib x2 4 then
          if ib (gI μ 20 (ix x2)) 40 then
            nm ((13 : Int64) * ((gI μ 3 (ix (gI μ 20 (ix x1)))) + (gI μ 3 (ix (gI μ 20 (ix x2))))).toInt64) (fun v6 =>
              if ib x2 4 then
                if ib x1 4 then
                  if ib x2 4 then
                    if ib x1 4 then
                      nm (((((gL μ 24 (ix x2)) * x3) - ((gL μ 24 (ix x1)) * x5)) * x7) + ((((gL μ 25 (ix x2)) * x3) - ((gL μ 25 (ix x1)) * x5)) * x9)) (fun v11 =>
                        if (v6 * v6) < v1 then (
                          some μ
                        ) else (
                          if v11 < (0 : Int64) then (
                            nm (sI μ 0 35 ((gI μ 0 35) + 1)) (fun μ12 =>
                              if ib x1 4 then
                                if ib (gI μ12 20 (ix x1)) 40 then
                                  if ib x2 4 then
                                    if ib (gI μ12 20 (ix x2)) 40 then
                                      if ¬ (gI μ12 3 (ix (gI μ12 20 (ix x1)))) = (gI μ12 3 (ix (gI μ12 20 (ix x2)))) then (
                                        if ((x3 + x5) * v1) = 0 then none else
                                        nm ((((2 : Int64) * v11) * x7) / ((x3 + x5) * v1)) (fun v17 =>
                                          if ((x3 + x5) * v1) = 0 then none else
                                          nm ((((2 : Int64) * v11) * x9) / ((x3 + x5) * v1)) (fun v18 =>
                                            if ib x1 4 then
                                              if ib x1 4 then
                                                nm (sL μ12 24 (ix x1) ((gL μ12 24 (ix x1)) + v17)) (fun μ21 =>
                                                  if ib x2 4 then
                                                    if ib x2 4 then
                                                      nm (sL μ21 24 (ix x2) ((gL μ21 24 (ix x2)) - v17)) (fun μ24 =>
                                                        if ib x1 4 then
                                                          if ib x1 4 then
                                                            nm (sL μ24 25 (ix x1) ((gL μ24 25 (ix x1)) + v18)) (fun μ27 =>
                                                              if ib x2 4 then
                                                                if ib x2 4 then
                                                                  nm (sL μ27 25 (ix x2) ((gL μ27 25 (ix x2)) - v18)) (fun μ30 =>
                                                                    f_M_knock_b403 x1 x2 μ30
                                                                  )
                                                                else none
                                                              else none
                                                            )
                                                          else none
                                                        else none
                                                      )
                                                    else none
                                                  else none
                                                )
                                              else none
                                            else none
                                          )
                                        )
                                      ) else (
                                        nm (sI μ12 0 36 ((gI μ12 0 36) + 1)) (fun μ33 =>
                                          if ib x1 4 then
                                            if ib x2 4 then
                                              nm ((gL μ33 24 (ix x1)) + (gL μ33 24 (ix x2))) (fun v36 =>
                                                if ib x1 4 then
                                                  if ib x2 4 then
                                                    nm ((gL μ33 25 (ix x1)) + (gL μ33 25 (ix x2))) (fun v39 =>
                                                      if (x3 + x5) = 0 then none else
                                                      if ib x1 4 then
                                                        nm (sL μ33 24 (ix x1) ((v36 * x3) / (x3 + x5))) (fun μ41 =>
                                                          if (x3 + x5) = 0 then none else
                                                          if ib x1 4 then
                                                            nm (sL μ41 25 (ix x1) ((v39 * x3) / (x3 + x5))) (fun μ43 =>
                                                              if ib x1 4 then
                                                                if ib x2 4 then
                                                                  nm (sL μ43 24 (ix x2) (v36 - (gL μ43 24 (ix x1)))) (fun μ46 =>
                                                                    if ib x1 4 then
                                                                      if ib x2 4 then
                                                                        nm (sL μ46 25 (ix x2) (v39 - (gL μ46 25 (ix x1)))) (fun μ49 =>
                                                                          f_M_knock_b403 x1 x2 μ49
                                                                        )
                                                                      else none
                                                                    else none
                                                                  )
                                                                else none
                                                              else none
                                                            )
                                                          else none
                                                        )
                                                      else none
                                                    )
                                                  else none
                                                else none
                                              )
                                            else none
                                          else none
                                        )
                                      )
                                    else none
                                  else none
                                else none
                              else none
                            )
                          ) else (
                            some μ
                          )
                        )
                      )
                    else none
                  else none
                else none
              else none
            )
          else none
        else none
      else none
    else none
  )
def f_M_knock (μ : Mem) (x1 : Int32) (x2 : Int32) : Option (Mem) :=
  if ib x1 4 then
    if ib (gI μ 20 (ix x1)) 40 then
      nm ((gI μ 2 (ix (gI μ 20 (ix x1)))).toInt64) (fun v3 =>
        if ib x2 4 then
          if ib (gI μ 20 (ix x2)) 40 then
            nm ((gI μ 2 (ix (gI μ 20 (ix x2)))).toInt64) (fun v6 =>
              if ib x2 4 then
                if ib x1 4 then
                  nm ((gL μ 21 (ix x2)) - (gL μ 21 (ix x1))) (fun v9 =>
                    if ib x2 4 then
                      if ib x1 4 then
                        nm ((gL μ 22 (ix x2)) - (gL μ 22 (ix x1))) (fun v12 =>
                          if ¬ v9 = (0 : Int64) then (
                            f_M_knock_b76 x1 x2 v3 v6 v9 v12 μ
                          ) else (
                            if ¬ v12 = (0 : Int64) then (
                              f_M_knock_b76 x1 x2 v3 v6 v9 v12 μ
                            ) else (
                              f_M_knock_b76 x1 x2 v3 v6 65 v12 μ
                            )
                          )
                        )
                      else none
                    else none
                  )
                else none
              else none
            )
          else none
        else none
      )
    else none
  else none
/-- TopYardModel.ticks(IIZ)V -/
def f_M_ticks_b78 (N : Nat) (k3 : Int32 → Int32 → Int32 → Int32 → Mem → Option (Mem)) (x1 : Int32) (x2 : Int32) (x3 : Int32) (x4 : Int32) (μ : Mem) : Option (Mem) :=
  nm (x4 + 1) (fun v1 =>
    k3 x1 x2 x3 v1 μ
  )
def f_M_ticks_b143 (N : Nat) (k91 : Int32 → Int32 → Mem → Option (Mem)) (k106 : Int32 → Int32 → Int32 → Mem → Option (Mem)) (x2 : Int32) (x4 : Int32) (x5 : Int32) (μ : Mem) : Option (Mem) :=
  nm (x5 + 1) (fun v1 =>
    k106 x2 x4 v1 μ
  )
def f_M_ticks_l106 (N : Nat) (k91 : Int32 → Int32 → Mem → Option (Mem)) : Nat → Int32 → Int32 → Int32 → Mem → Option (Mem)
  | 0, _, _, _, _ => none
  | n + 1, x2, x4, x5, μ =>
    if (gI μ 0 25) ≤ x5 then (
      nm (x4 + 1) (fun v1 =>
        k91 x2 v1 μ
      )
    ) else (
      if ib x4 4 then
        if ¬ (gI μ 28 (ix x4)) = 0 then (
          f_M_ticks_b143 N k91 (f_M_ticks_l106 N k91 n) x2 x4 x5 μ
        ) else (
          if ib x5 4 then
            if ¬ (gI μ 28 (ix x5)) = 0 then (
              f_M_ticks_b143 N k91 (f_M_ticks_l106 N k91 n) x2 x4 x5 μ
            ) else (
              Option.bind (f_M_knock μ x4 x5) (fun μ4 =>
                f_M_ticks_b143 N k91 (f_M_ticks_l106 N k91 n) x2 x4 x5 μ4
              )
            )
          else none
        )
      else none
    )
def f_M_ticks_b257 (N : Nat) (k158 : Int32 → Int32 → Mem → Option (Mem)) (x2 : Int32) (x4 : Int32) (μ : Mem) : Option (Mem) :=
  nm (x4 + 1) (fun v1 =>
    k158 x2 v1 μ
  )
def f_M_ticks_b256 (N : Nat) (k158 : Int32 → Int32 → Mem → Option (Mem)) (x2 : Int32) (x4 : Int32) (xs0 : Int32) (xs1 : Int32) (μ : Mem) : Option (Mem) :=
  if ib xs1 4 then
    nm (sI μ 28 (ix xs1) xs0) (fun μ2 =>
      f_M_ticks_b257 N k158 x2 x4 μ2
    )
  else none
def f_M_ticks_b201 (N : Nat) (k158 : Int32 → Int32 → Mem → Option (Mem)) (x2 : Int32) (x4 : Int32) (μ : Mem) : Option (Mem) :=
  if ib x4 4 then
    if ib x4 4 then
      if ib x4 4 then
        if ib x4 4 then
          if (((4225 : Int64) * x2.toInt64) * x2.toInt64) < (((gL μ 21 (ix x4)) * (gL μ 21 (ix x4))) + ((gL μ 22 (ix x4)) * (gL μ 22 (ix x4)))) then (
            f_M_ticks_b256 N k158 x2 x4 2 x4 μ
          ) else (
            f_M_ticks_b256 N k158 x2 x4 3 x4 μ
          )
        else none
      else none
    else none
  else none
def f_M_ticks_l158 (N : Nat) : Nat → Int32 → Int32 → Mem → Option (Mem)
  | 0, _, _, _ => none
  | n + 1, x2, x4, μ =>
    if (gI μ 0 25) ≤ x4 then (
      some μ
    ) else (
      if ib x4 4 then
        if ¬ (gI μ 28 (ix x4)) = 0 then (
          f_M_ticks_b257 N (f_M_ticks_l158 N n) x2 x4 μ
        ) else (
          if ib x4 4 then
            if (gI μ 26 (ix x4)) < (10 : Int32) then (
              f_M_ticks_b201 N (f_M_ticks_l158 N n) x2 x4 μ
            ) else (
              if ib x4 4 then
                if (gI μ 27 (ix x4)) ≤ (8 : Int32) then (
                  f_M_ticks_b257 N (f_M_ticks_l158 N n) x2 x4 μ
                ) else (
                  f_M_ticks_b201 N (f_M_ticks_l158 N n) x2 x4 μ
                )
              else none
            )
          else none
        )
      else none
    )
def f_M_ticks_l91 (N : Nat) : Nat → Int32 → Int32 → Mem → Option (Mem)
  | 0, _, _, _ => none
  | n + 1, x2, x4, μ =>
    if (gI μ 0 25) ≤ x4 then (
      f_M_ticks_l158 N N x2 0 μ
    ) else (
      nm (x4 + 1) (fun v1 =>
        f_M_ticks_l106 N (f_M_ticks_l91 N n) N x2 x4 v1 μ
      )
    )
def f_M_ticks_b84 (N : Nat) (x2 : Int32) (μ : Mem) : Option (Mem) :=
  Option.bind (f_M_moves N μ) (fun μ1 =>
    f_M_ticks_l91 N N x2 0 μ1
  )
def f_M_ticks_l3 (N : Nat) : Nat → Int32 → Int32 → Int32 → Int32 → Mem → Option (Mem)
  | 0, _, _, _, _, _ => none
  | n + 1, x1, x2, x3, x4, μ =>
    if (gI μ 0 21) ≤ x4 then (
      f_M_ticks_b84 N x2 μ
    ) else (
      if x3 = 0 then (
        f_M_ticks_b84 N x2 μ
      ) else (
        if ib x4 8 then
          if ¬ (gI μ 18 (ix x4)) = x1 then (
            f_M_ticks_b78 N (f_M_ticks_l3 N n) x1 x2 x3 x4 μ
          ) else (
            if ib x4 8 then
              if (gI μ 0 25) ≤ (gI μ 17 (ix x4)) then (
                f_M_ticks_b78 N (f_M_ticks_l3 N n) x1 x2 x3 x4 μ
              ) else (
                if ib x4 8 then
                  if ib (gI μ 17 (ix x4)) 4 then
                    if ¬ (gI μ 28 (ix (gI μ 17 (ix x4)))) = 0 then (
                      f_M_ticks_b78 N (f_M_ticks_l3 N n) x1 x2 x3 x4 μ
                    ) else (
                      if ib x4 8 then
                        if ib (gI μ 17 (ix x4)) 4 then
                          if ib x4 8 then
                            if ib (gI μ 17 (ix x4)) 4 then
                              nm (sI μ 26 (ix (gI μ 17 (ix x4))) ((gI μ 26 (ix (gI μ 17 (ix x4)))) + (gI μ 19 (ix x4)))) (fun μ9 =>
                                f_M_ticks_b78 N (f_M_ticks_l3 N n) x1 x2 x3 x4 μ9
                              )
                            else none
                          else none
                        else none
                      else none
                    )
                  else none
                else none
              )
            else none
          )
        else none
      )
    )
def f_M_ticks (N : Nat) (μ : Mem) (x1 : Int32) (x2 : Int32) (x3 : Int32) : Option (Mem) :=
  f_M_ticks_l3 N N x1 x2 x3 0 μ
/-- TopYardModel.runsTo(IIZ)I -/
def f_M_runsTo_b32 (N : Nat) (k13 : Int32 → Int32 → Int32 → Int32 → Mem → Option (Int32 × Mem)) (x1 : Int32) (x2 : Int32) (x3 : Int32) (x4 : Int32) (μ : Mem) : Option (Int32 × Mem) :=
  nm (x4 + 1) (fun v1 =>
    Option.bind (f_M_ticks N μ v1 x2 x3) (fun μ2 =>
      k13 x1 x2 x3 v1 μ2
    )
  )
def f_M_runsTo_l13 (N : Nat) : Nat → Int32 → Int32 → Int32 → Int32 → Mem → Option (Int32 × Mem)
  | 0, _, _, _, _, _ => none
  | n + 1, x1, x2, x3, x4, μ =>
    if x1 ≤ x4 then (
      some (x4, μ)
    ) else (
      if x4 = 0 then (
        f_M_runsTo_b32 N (f_M_runsTo_l13 N n) x1 x2 x3 x4 μ
      ) else (
        Option.bind (f_M_standing N μ) (fun v1 =>
          if v1 ≤ (1 : Int32) then (
            some (x4, μ)
          ) else (
            f_M_runsTo_b32 N (f_M_runsTo_l13 N n) x1 x2 x3 x4 μ
          )
        )
      )
    )
def f_M_runsTo (N : Nat) (μ : Mem) (x1 : Int32) (x2 : Int32) (x3 : Int32) : Option (Int32 × Mem) :=
  nm (sI μ 0 35 0) (fun μ1 =>
    nm (sI μ1 0 36 0) (fun μ2 =>
      f_M_runsTo_l13 N N x1 x2 x3 0 μ2
    )
  )
/-- TopYardModel.runsBout(I)I -/
def f_M_runsBout_l10 (N : Nat) : Nat → Int32 → Int32 → Mem → Option (Int32 × Mem)
  | 0, _, _, _ => none
  | n + 1, x1, x2, μ =>
    if (gI μ 0 15) ≤ x2 then (
      bM2 (f_M_runsTo N μ x1 (gI μ 0 10) 1) (fun v1 μ2 =>
        some (v1, μ2)
      )
    ) else (
      if ib x2 4 then
        if ib x2 4 then
          if ib x2 4 then
            if ib x2 4 then
              if ib x2 4 then
                Option.bind (f_M_begins μ x2 (gI μ 12 (ix x2)) (gI μ 13 (ix x2)) (gI μ 14 (ix x2)) (gI μ 15 (ix x2)) (gI μ 16 (ix x2))) (fun μ9 =>
                  nm (x2 + 1) (fun v10 =>
                    (f_M_runsBout_l10 N n) x1 v10 μ9
                  )
                )
              else none
            else none
          else none
        else none
      else none
    )
def f_M_runsBout (N : Nat) (μ : Mem) (x1 : Int32) : Option (Int32 × Mem) :=
  nm (sI μ 0 25 (gI μ 0 15)) (fun μ1 =>
    f_M_runsBout_l10 N N x1 0 μ1
  )
/-- TopYardModel.alone()I -/
def f_M_alone_b34 (N : Nat) (μ : Mem) (k4 : Int32 → Int32 → Option (Int32)) (x2 : Int32) (xs0 : Int32) : Option (Int32) :=
  nm (x2 + 1) (fun v1 =>
    k4 xs0 v1
  )
def f_M_alone_l4 (N : Nat) (μ : Mem) : Nat → Int32 → Int32 → Option (Int32)
  | 0, _, _ => none
  | n + 1, x1, x2 =>
    if (gI μ 0 25) ≤ x2 then (
      some x1
    ) else (
      Option.bind (f_M_standing N μ) (fun v1 =>
        if ¬ v1 = (1 : Int32) then (
          some x1
        ) else (
          if ib x2 4 then
            if ¬ (gI μ 28 (ix x2)) = 0 then (
              f_M_alone_b34 N μ (f_M_alone_l4 N μ n) x2 x1
            ) else (
              f_M_alone_b34 N μ (f_M_alone_l4 N μ n) x2 x2
            )
          else none
        )
      )
    )
def f_M_alone (N : Nat) (μ : Mem) : Option (Int32) :=
  f_M_alone_l4 N μ N (-1) 0
/-- TopYardModel.run()I -/
def f_M_run (N : Nat) (μ : Mem) : Option (Int32 × Mem) :=
  if (2 : Int32) ≤ (gI μ 0 15) then (
    bM2 (f_M_runsBout N μ 400) (fun v1 μ2 =>
      some (v1, μ2)
    )
  ) else (
    some ((-3), μ)
  )
/-- TopYardModel.winner()I -/
def f_M_winner (N : Nat) (μ : Mem) : Option (Int32 × Mem) :=
  if (2 : Int32) ≤ (gI μ 0 15) then (
    bM2 (f_M_runsBout N μ 400) (fun v1 μ2 =>
      Option.bind (f_M_alone N μ2) (fun v3 =>
        some (v3, μ2)
      )
    )
  ) else (
    some ((-3), μ)
  )
/-- TopYardModel.knocks(I)I -/
def f_M_knocks (N : Nat) (μ : Mem) (x1 : Int32) : Option (Int32 × Mem) :=
  Option.bind (f_M_in (x1.toInt64) 0 1) (fun v1 =>
    if ¬ v1 = 0 then (
      if (2 : Int32) ≤ (gI μ 0 15) then (
        bM2 (f_M_runsBout N μ 400) (fun v2 μ3 =>
          if ¬ x1 = 0 then (
            some ((gI μ3 0 36), μ3)
          ) else (
            some ((gI μ3 0 35), μ3)
          )
        )
      ) else (
        some ((-3), μ)
      )
    ) else (
      some ((-2), μ)
    )
  )
/-- TopYardModel.stateOf(II)I -/
def f_M_stateOf (μ : Mem) (x1 : Int32) (x2 : Int32) : Option (Int32) :=
  if x2 = 0 then (
    if ib x1 4 then
      some ((gL μ 21 (ix x1)).toInt32)
    else none
  ) else
  if x2 = 1 then (
    if ib x1 4 then
      some ((gL μ 22 (ix x1)).toInt32)
    else none
  ) else
  if x2 = 2 then (
    if ib x1 4 then
      some (gI μ 23 (ix x1))
    else none
  ) else
  if x2 = 3 then (
    if ib x1 4 then
      some ((gL μ 24 (ix x1)).toInt32)
    else none
  ) else
  if x2 = 4 then (
    if ib x1 4 then
      some ((gL μ 25 (ix x1)).toInt32)
    else none
  ) else
  if x2 = 5 then (
    if ib x1 4 then
      some (gI μ 26 (ix x1))
    else none
  ) else
  if x2 = 6 then (
    if ib x1 4 then
      some (gI μ 27 (ix x1))
    else none
  ) else
  (
    if ib x1 4 then
      some (gI μ 28 (ix x1))
    else none
  )
/-- TopYardModel.state(III)I -/
def f_M_state (N : Nat) (μ : Mem) (x1 : Int32) (x2 : Int32) (x3 : Int32) : Option (Int32 × Mem) :=
  Option.bind (f_M_in (x1.toInt64) 0 (((gI μ 0 15) - 1).toInt64)) (fun v1 =>
    if v1 = 0 then (
      some ((-2147483648), μ)
    ) else (
      Option.bind (f_M_in (x2.toInt64) 0 400) (fun v2 =>
        if v2 = 0 then (
          some ((-2147483648), μ)
        ) else (
          Option.bind (f_M_in (x3.toInt64) 0 7) (fun v3 =>
            if v3 = 0 then (
              some ((-2147483648), μ)
            ) else (
              if (2 : Int32) ≤ (gI μ 0 15) then (
                bM2 (f_M_runsBout N μ x2) (fun v4 μ5 =>
                  Option.bind (f_M_stateOf μ5 x1 x3) (fun v6 =>
                    some (v6, μ5)
                  )
                )
              ) else (
                some ((-2147483648), μ)
              )
            )
          )
        )
      )
    )
  )
/-- TopYardModel.comesTo(IIII)I -/
def f_M_comesTo_b133 (N : Nat) (x6 : Int32) (μ : Mem) : Option (Int32 × Mem) :=
  if ¬ x6 = 0 then (
    if ¬ x6 = (1 : Int32) then (
      some (0, μ)
    ) else (
      some ((-1), μ)
    )
  ) else (
    some (1, μ)
  )
def f_M_comesTo_b131 (N : Nat) (xs0 : Int32) (μ : Mem) : Option (Int32 × Mem) :=
  f_M_comesTo_b133 N xs0 μ
def f_M_comesTo_b113 (N : Nat) (x6 : Int32) (xs0 : Int32) (xs1 : Int32) (μ : Mem) : Option (Int32 × Mem) :=
  if xs1 = xs0 then (
    f_M_comesTo_b133 N x6 μ
  ) else (
    if ib (0 : Int32) 4 then
      if ¬ (gI μ 28 (ix (0 : Int32))) = (3 : Int32) then (
        f_M_comesTo_b131 N 1 μ
      ) else (
        f_M_comesTo_b131 N 0 μ
      )
    else none
  )
def f_M_comesTo_b98 (N : Nat) (x6 : Int32) (xs0 : Int32) (μ : Mem) : Option (Int32 × Mem) :=
  if ib (1 : Int32) 4 then
    if ¬ (gI μ 28 (ix (1 : Int32))) = (3 : Int32) then (
      f_M_comesTo_b113 N x6 0 xs0 μ
    ) else (
      f_M_comesTo_b113 N x6 1 xs0 μ
    )
  else none
def f_M_comesTo_b60 (N : Nat) (x4 : Int32) (xs0 : Int32) (xs1 : Int32) (μ : Mem) : Option (Int32 × Mem) :=
  bM2 (f_M_runsTo N μ xs1 xs0 0) (fun v1 μ2 =>
    Option.bind (f_M_alone N μ2) (fun v3 =>
      if ¬ v3 = (-1 : Int32) then (
        f_M_comesTo_b133 N v3 μ2
      ) else (
        if x4 < 0 then (
          f_M_comesTo_b133 N v3 μ2
        ) else (
          if ib (0 : Int32) 4 then
            if ¬ (gI μ2 28 (ix (0 : Int32))) = (3 : Int32) then (
              f_M_comesTo_b98 N v3 0 μ2
            ) else (
              f_M_comesTo_b98 N v3 1 μ2
            )
          else none
        )
      )
    )
  )
def f_M_comesTo (N : Nat) (μ : Mem) (x1 : Int32) (x2 : Int32) (x3 : Int32) (x4 : Int32) : Option (Int32 × Mem) :=
  if ¬ x1 = x2 then (
    nm (sI μ 0 25 2) (fun μ1 =>
      Option.bind (f_M_begins μ1 0 x1 (-((gI μ1 0 9) / 2)) 0 9 x3) (fun μ2 =>
        Option.bind (f_M_begins μ2 1 x2 ((gI μ2 0 9) / 2) 0 27 x3) (fun μ3 =>
          if 0 ≤ x4 then (
            f_M_comesTo_b60 N x4 x4 400 μ3
          ) else (
            f_M_comesTo_b60 N x4 0 400 μ3
          )
        )
      )
    )
  ) else (
    some (0, μ)
  )
/-- TopYardModel.expectedOf(II)I -/
def f_M_expectedOf (N : Nat) (μ : Mem) (x1 : Int32) (x2 : Int32) : Option (Int32 × Mem) :=
  bM2 (f_M_comesTo N μ x1 x2 30 (-1)) (fun v1 μ2 =>
    some (v1, μ2)
  )
/-- TopYardModel.expected(II)I -/
def f_M_expected (N : Nat) (μ : Mem) (x1 : Int32) (x2 : Int32) : Option (Int32 × Mem) :=
  Option.bind (f_M_isTop μ x1) (fun v1 =>
    if v1 = 0 then (
      some ((-100), μ)
    ) else (
      Option.bind (f_M_isTop μ x2) (fun v2 =>
        if v2 = 0 then (
          some ((-100), μ)
        ) else (
          bM2 (f_M_expectedOf N μ x1 x2) (fun v3 μ4 =>
            some (v3, μ4)
          )
        )
      )
    )
  )
/-- TopYardModel.choose()I -/
def f_M_choose (μ : Mem) : Option (Int32 × Mem) :=
  nm ((gI μ 0 37) + (gI μ 0 38)) (fun v1 =>
    nm (sI μ 0 37 0) (fun μ2 =>
      nm (sI μ2 0 38 0) (fun μ3 =>
        some (v1, μ3)
      )
    )
  )
/-- TopYardModel.among(II)I -/
def f_M_among_b77 (N : Nat) (k48 : Int32 → Int32 → Int32 → Int32 → Mem → Option (Int32 × Mem)) (x1 : Int32) (x2 : Int32) (x3 : Int32) (x4 : Int32) (xs0 : Int32) (μ : Mem) : Option (Int32 × Mem) :=
  if ib xs0 16 then
    nm (sI μ 31 (ix xs0) 0) (fun μ2 =>
      nm (x4 + 1) (fun v3 =>
        k48 x1 x2 x3 v3 μ2
      )
    )
  else none
def f_M_among_l48 (N : Nat) : Nat → Int32 → Int32 → Int32 → Int32 → Mem → Option (Int32 × Mem)
  | 0, _, _, _, _, _ => none
  | n + 1, x1, x2, x3, x4, μ =>
    if (4 : Int32) ≤ x4 then (
      if ¬ x1 = 0 then (
        if ib x3 4 then
          nm (sI μ 30 (ix x3) x2) (fun μ2 =>
            nm (sI μ2 0 38 ((gI μ2 0 38) + 1)) (fun μ3 =>
              some ((x3 + 1), μ3)
            )
          )
        else none
      ) else (
        if ib x3 4 then
          nm (sI μ 29 (ix x3) x2) (fun μ5 =>
            nm (sI μ5 0 37 ((gI μ5 0 37) + 1)) (fun μ6 =>
              some ((x3 + 1), μ6)
            )
          )
        else none
      )
    ) else (
      if ¬ x1 = 0 then (
        f_M_among_b77 N (f_M_among_l48 N n) x1 x2 x3 x4 (((4 : Int32) * x4) + x3) μ
      ) else (
        f_M_among_b77 N (f_M_among_l48 N n) x1 x2 x3 x4 (((4 : Int32) * x3) + x4) μ
      )
    )
def f_M_among_b36 (N : Nat) (x1 : Int32) (x2 : Int32) (xs0 : Int32) (μ : Mem) : Option (Int32 × Mem) :=
  if ¬ xs0 = (4 : Int32) then (
    f_M_among_l48 N N x1 x2 xs0 0 μ
  ) else (
    some ((-4), μ)
  )
def f_M_among (N : Nat) (μ : Mem) (x1 : Int32) (x2 : Int32) : Option (Int32 × Mem) :=
  Option.bind (f_M_in (x1.toInt64) 0 1) (fun v1 =>
    if v1 = 0 then (
      some ((-2), μ)
    ) else (
      Option.bind (f_M_isTop μ x2) (fun v2 =>
        if ¬ v2 = 0 then (
          if ¬ x1 = 0 then (
            f_M_among_b36 N x1 x2 (gI μ 0 38) μ
          ) else (
            f_M_among_b36 N x1 x2 (gI μ 0 37) μ
          )
        ) else (
          some ((-2), μ)
        )
      )
    )
  )
/-- TopYardModel.isPay(II)Z -/
def f_M_isPay (μ : Mem) (x1 : Int32) (x2 : Int32) : Option (Int32) :=
  Option.bind (f_M_in (x1.toInt64) 0 (((gI μ 0 37) - 1).toInt64)) (fun v1 =>
    if v1 = 0 then (
      some 0
    ) else (
      Option.bind (f_M_in (x2.toInt64) 0 (((gI μ 0 38) - 1).toInt64)) (fun v2 =>
        if v2 = 0 then (
          some 0
        ) else (
          some 1
        )
      )
    )
  )
/-- TopYardModel.pay(III)I -/
def f_M_pay (μ : Mem) (x1 : Int32) (x2 : Int32) (x3 : Int32) : Option (Int32 × Mem) :=
  Option.bind (f_M_isPay μ x1 x2) (fun v1 =>
    if v1 = 0 then (
      some ((-100), μ)
    ) else (
      Option.bind (f_M_in (x3.toInt64) (-9) 9) (fun v2 =>
        if ¬ v2 = 0 then (
          if ib (((4 : Int32) * x1) + x2) 16 then
            nm (gI μ 31 (ix (((4 : Int32) * x1) + x2))) (fun v4 =>
              if ib (((4 : Int32) * x1) + x2) 16 then
                nm (sI μ 31 (ix (((4 : Int32) * x1) + x2)) x3) (fun μ6 =>
                  some (v4, μ6)
                )
              else none
            )
          else none
        ) else (
          some ((-100), μ)
        )
      )
    )
  )
/-- TopYardModel.pays(II)I -/
def f_M_pays (μ : Mem) (x1 : Int32) (x2 : Int32) : Option (Int32) :=
  Option.bind (f_M_isPay μ x1 x2) (fun v1 =>
    if v1 = 0 then (
      some (-100)
    ) else (
      if ib (((4 : Int32) * x1) + x2) 16 then
        some (gI μ 31 (ix (((4 : Int32) * x1) + x2)))
      else none
    )
  )
/-- TopYardModel.fill()I -/
def f_M_fill_b84 (N : Nat) (k21 : Int32 → Int32 → Mem → Option (Int32 × Mem)) (k31 : Int32 → Int32 → Int32 → Mem → Option (Int32 × Mem)) (x2 : Int32) (x3 : Int32) (xs0 : Int32) (xs1 : Int32) (μ : Mem) : Option (Int32 × Mem) :=
  nm (xs1 + xs0) (fun v1 =>
    nm (x3 + 1) (fun v2 =>
      k31 v1 x2 v2 μ
    )
  )
def f_M_fill_l31 (N : Nat) (k21 : Int32 → Int32 → Mem → Option (Int32 × Mem)) : Nat → Int32 → Int32 → Int32 → Mem → Option (Int32 × Mem)
  | 0, _, _, _, _ => none
  | n + 1, x1, x2, x3, μ =>
    if (gI μ 0 38) ≤ x3 then (
      nm (x2 + 1) (fun v1 =>
        k21 x1 v1 μ
      )
    ) else (
      if ib x2 4 then
        if ib x3 4 then
          bM2 (f_M_expectedOf N μ (gI μ 29 (ix x2)) (gI μ 30 (ix x3))) (fun v4 μ5 =>
            if ib (((4 : Int32) * x2) + x3) 16 then
              nm (sI μ5 31 (ix (((4 : Int32) * x2) + x3)) v4) (fun μ7 =>
                if ib (((4 : Int32) * x2) + x3) 16 then
                  if (gI μ7 31 (ix (((4 : Int32) * x2) + x3))) = 0 then (
                    f_M_fill_b84 N k21 (f_M_fill_l31 N k21 n) x2 x3 0 x1 μ7
                  ) else (
                    f_M_fill_b84 N k21 (f_M_fill_l31 N k21 n) x2 x3 1 x1 μ7
                  )
                else none
              )
            else none
          )
        else none
      else none
    )
def f_M_fill_l21 (N : Nat) : Nat → Int32 → Int32 → Mem → Option (Int32 × Mem)
  | 0, _, _, _ => none
  | n + 1, x1, x2, μ =>
    if (gI μ 0 37) ≤ x2 then (
      some (x1, μ)
    ) else (
      f_M_fill_l31 N (f_M_fill_l21 N n) N x1 x2 0 μ
    )
def f_M_fill (N : Nat) (μ : Mem) : Option (Int32 × Mem) :=
  if (gI μ 0 37) = 0 then (
    some ((-3), μ)
  ) else (
    if ¬ (gI μ 0 38) = 0 then (
      f_M_fill_l21 N N 0 0 μ
    ) else (
      some ((-3), μ)
    )
  )
/-- TopYardModel.ones(I)I -/
def f_M_ones_l4 (N : Nat) : Nat → Int32 → Int32 → Option (Int32)
  | 0, _, _ => none
  | n + 1, x1, x2 =>
    if x2 = 0 then (
      some x1
    ) else (
      nm (x1 + 1) (fun v1 =>
        nm (x2 &&& (x2 - 1)) (fun v2 =>
          (f_M_ones_l4 N n) v1 v2
        )
      )
    )
def f_M_ones (N : Nat) (x0 : Int32) : Option (Int32) :=
  f_M_ones_l4 N N 0 x0
/-- TopYardModel.det2(IIII)J -/
def f_M_det2 (μ : Mem) (x1 : Int32) (x2 : Int32) (x3 : Int32) (x4 : Int32) : Option (Int64) :=
  if ib (((4 : Int32) * x1) + x3) 16 then
    if ib (((4 : Int32) * x2) + x4) 16 then
      if ib (((4 : Int32) * x1) + x4) 16 then
        if ib (((4 : Int32) * x2) + x3) 16 then
          some (((gL μ 32 (ix (((4 : Int32) * x1) + x3))) * (gL μ 32 (ix (((4 : Int32) * x2) + x4)))) - ((gL μ 32 (ix (((4 : Int32) * x1) + x4))) * (gL μ 32 (ix (((4 : Int32) * x2) + x3)))))
        else none
      else none
    else none
  else none
/-- TopYardModel.det3(IIIIII)J -/
def f_M_det3 (μ : Mem) (x1 : Int32) (x2 : Int32) (x3 : Int32) (x4 : Int32) (x5 : Int32) (x6 : Int32) : Option (Int64) :=
  if ib (((4 : Int32) * x1) + x4) 16 then
    Option.bind (f_M_det2 μ x2 x3 x5 x6) (fun v2 =>
      if ib (((4 : Int32) * x1) + x5) 16 then
        Option.bind (f_M_det2 μ x2 x3 x4 x6) (fun v4 =>
          if ib (((4 : Int32) * x1) + x6) 16 then
            Option.bind (f_M_det2 μ x2 x3 x4 x5) (fun v6 =>
              some ((((gL μ 32 (ix (((4 : Int32) * x1) + x4))) * v2) - ((gL μ 32 (ix (((4 : Int32) * x1) + x5))) * v4)) + ((gL μ 32 (ix (((4 : Int32) * x1) + x6))) * v6))
            )
          else none
        )
      else none
    )
  else none
/-- TopYardModel.without(II)I -/
def f_M_without (x0 : Int32) (x1 : Int32) : Option (Int32) :=
  if x1 ≤ x0 then (
    some (x0 + 1)
  ) else (
    some x0
  )
/-- TopYardModel.minor(III)J -/
def f_M_minor (μ : Mem) (x1 : Int32) (x2 : Int32) (x3 : Int32) : Option (Int64) :=
  Option.bind (f_M_without 0 x2) (fun v1 =>
    Option.bind (f_M_without 1 x2) (fun v2 =>
      Option.bind (f_M_without 0 x3) (fun v3 =>
        Option.bind (f_M_without 1 x3) (fun v4 =>
          if x1 = 1 then (
            some 1
          ) else
          if x1 = 2 then (
            if ib (((4 : Int32) * v1) + v3) 16 then
              some (gL μ 32 (ix (((4 : Int32) * v1) + v3)))
            else none
          ) else
          if x1 = 3 then (
            Option.bind (f_M_det2 μ v1 v2 v3 v4) (fun v8 =>
              some v8
            )
          ) else
          (
            Option.bind (f_M_without 2 x2) (fun v11 =>
              Option.bind (f_M_without 2 x3) (fun v12 =>
                Option.bind (f_M_det3 μ v1 v2 v11 v3 v4 v12) (fun v13 =>
                  some v13
                )
              )
            )
          )
        )
      )
    )
  )
/-- TopYardModel.takesPart(II)V -/
def f_M_takesPart_b79 (N : Nat) (k5 : Int32 → Int32 → Int32 → Int32 → Mem → Option (Mem)) (k30 : Int32 → Int32 → Int32 → Int32 → Int32 → Int32 → Mem → Option (Mem)) (x1 : Int32) (x2 : Int32) (x3 : Int32) (x4 : Int32) (x5 : Int32) (x6 : Int32) (μ : Mem) : Option (Mem) :=
  nm (x6 + 1) (fun v1 =>
    k30 x1 x2 x3 x4 x5 v1 μ
  )
def f_M_takesPart_b88 (N : Nat) (k5 : Int32 → Int32 → Int32 → Int32 → Mem → Option (Mem)) (x1 : Int32) (x2 : Int32) (x3 : Int32) (x4 : Int32) (μ : Mem) : Option (Mem) :=
  nm (x4 + 1) (fun v1 =>
    k5 x1 x2 x3 v1 μ
  )
def f_M_takesPart_l30 (N : Nat) (k5 : Int32 → Int32 → Int32 → Int32 → Mem → Option (Mem)) : Nat → Int32 → Int32 → Int32 → Int32 → Int32 → Int32 → Mem → Option (Mem)
  | 0, _, _, _, _, _, _, _ => none
  | n + 1, x1, x2, x3, x4, x5, x6, μ =>
    if (gI μ 0 38) ≤ x6 then (
      nm (x3 + 1) (fun v1 =>
        f_M_takesPart_b88 N k5 x1 x2 v1 x4 μ
      )
    ) else (
      if ¬ ((x2 >>> (x6 &&& 31)) &&& 1) = (1 : Int32) then (
        f_M_takesPart_b79 N k5 (f_M_takesPart_l30 N k5 n) x1 x2 x3 x4 x5 x6 μ
      ) else (
        if ib (((4 : Int32) * x4) + x6) 16 then
          if ib (((4 : Int32) * x3) + x5) 16 then
            nm (sL μ 32 (ix (((4 : Int32) * x3) + x5)) (((gI μ 31 (ix (((4 : Int32) * x4) + x6))) + 20).toInt64)) (fun μ4 =>
              nm (x5 + 1) (fun v5 =>
                f_M_takesPart_b79 N k5 (f_M_takesPart_l30 N k5 n) x1 x2 x3 x4 v5 x6 μ4
              )
            )
          else none
        else none
      )
    )
def f_M_takesPart_b162 (N : Nat) (k107 : Int32 → Int32 → Int32 → Int32 → Mem → Option (Mem)) (k116 : Int32 → Int32 → Int32 → Int32 → Int32 → Mem → Option (Mem)) (x1 : Int32) (x2 : Int32) (x3 : Int32) (x4 : Int32) (x5 : Int32) (xs0 : Int64) (xs1 : Int32) (μ : Mem) : Option (Mem) :=
  if ib xs1 16 then
    nm (sL μ 33 (ix xs1) xs0) (fun μ2 =>
      if ib (((4 : Int32) * x4) + x5) 16 then
        nm (sL μ2 0 46 ((gL μ2 0 46) + (gL μ2 33 (ix (((4 : Int32) * x4) + x5))))) (fun μ4 =>
          nm (x5 + 1) (fun v5 =>
            k116 x1 x2 x3 x4 v5 μ4
          )
        )
      else none
    )
  else none
def f_M_takesPart_l116 (N : Nat) (k107 : Int32 → Int32 → Int32 → Int32 → Mem → Option (Mem)) : Nat → Int32 → Int32 → Int32 → Int32 → Int32 → Mem → Option (Mem)
  | 0, _, _, _, _, _, _ => none
  | n + 1, x1, x2, x3, x4, x5, μ =>
    if x3 ≤ x5 then (
      nm (x4 + 1) (fun v1 =>
        k107 x1 x2 x3 v1 μ
      )
    ) else (
      Option.bind (f_M_minor μ x3 x5 x4) (fun v2 =>
        if ¬ ((x4 + x5) - (x4 + x5) / 2 * 2) = 0 then (
          f_M_takesPart_b162 N k107 (f_M_takesPart_l116 N k107 n) x1 x2 x3 x4 x5 (-v2) (((4 : Int32) * x4) + x5) μ
        ) else (
          f_M_takesPart_b162 N k107 (f_M_takesPart_l116 N k107 n) x1 x2 x3 x4 x5 v2 (((4 : Int32) * x4) + x5) μ
        )
      )
    )
def f_M_takesPart_b368 (N : Nat) (k246 : Int32 → Int32 → Int32 → Int32 → Int32 → Int32 → Mem → Option (Mem)) (x1 : Int32) (x2 : Int32) (x3 : Int32) (x4 : Int32) (x5 : Int32) (x6 : Int32) (μ : Mem) : Option (Mem) :=
  nm (x6 + 1) (fun v1 =>
    k246 x1 x2 x3 x4 x5 v1 μ
  )
def f_M_takesPart_l331 (N : Nat) (k246 : Int32 → Int32 → Int32 → Int32 → Int32 → Int32 → Mem → Option (Mem)) : Nat → Int32 → Int32 → Int32 → Int32 → Int32 → Int32 → Int32 → Mem → Option (Mem)
  | 0, _, _, _, _, _, _, _, _ => none
  | n + 1, x1, x2, x3, x4, x5, x6, x7, μ =>
    if x3 ≤ x7 then (
      nm (x5 + 1) (fun v1 =>
        f_M_takesPart_b368 N k246 x1 x2 x3 x4 v1 x6 μ
      )
    ) else (
      if ib x6 4 then
        if ib (((4 : Int32) * x5) + x7) 16 then
          if ib x6 4 then
            nm (sL μ 35 (ix x6) ((gL μ 35 (ix x6)) + (gL μ 33 (ix (((4 : Int32) * x5) + x7))))) (fun μ5 =>
              nm (x7 + 1) (fun v6 =>
                (f_M_takesPart_l331 N k246 n) x1 x2 x3 x4 x5 x6 v6 μ5
              )
            )
          else none
        else none
      else none
    )
def f_M_takesPart_b318 (N : Nat) (k246 : Int32 → Int32 → Int32 → Int32 → Int32 → Int32 → Mem → Option (Mem)) (x1 : Int32) (x2 : Int32) (x3 : Int32) (x4 : Int32) (x5 : Int32) (x6 : Int32) (μ : Mem) : Option (Mem) :=
  if ¬ ((x2 >>> (x6 &&& 31)) &&& 1) = (1 : Int32) then (
    f_M_takesPart_b368 N k246 x1 x2 x3 x4 x5 x6 μ
  ) else (
    f_M_takesPart_l331 N k246 N x1 x2 x3 x4 x5 x6 0 μ
  )
def f_M_takesPart_l281 (N : Nat) (k246 : Int32 → Int32 → Int32 → Int32 → Int32 → Int32 → Mem → Option (Mem)) : Nat → Int32 → Int32 → Int32 → Int32 → Int32 → Int32 → Int32 → Mem → Option (Mem)
  | 0, _, _, _, _, _, _, _, _ => none
  | n + 1, x1, x2, x3, x4, x5, x6, x7, μ =>
    if x3 ≤ x7 then (
      nm (x4 + 1) (fun v1 =>
        f_M_takesPart_b318 N k246 x1 x2 x3 v1 x5 x6 μ
      )
    ) else (
      if ib x6 4 then
        if ib (((4 : Int32) * x7) + x4) 16 then
          if ib x6 4 then
            nm (sL μ 34 (ix x6) ((gL μ 34 (ix x6)) + (gL μ 33 (ix (((4 : Int32) * x7) + x4))))) (fun μ5 =>
              nm (x7 + 1) (fun v6 =>
                (f_M_takesPart_l281 N k246 n) x1 x2 x3 x4 x5 x6 v6 μ5
              )
            )
          else none
        else none
      else none
    )
def f_M_takesPart_l404 (N : Nat) : Nat → Int32 → Mem → Option (Mem)
  | 0, _, _ => none
  | n + 1, x6, μ =>
    if (4 : Int32) ≤ x6 then (
      some μ
    ) else (
      if ib x6 4 then
        if ib x6 4 then
          nm (sL μ 34 (ix x6) (-(gL μ 34 (ix x6)))) (fun μ3 =>
            if ib x6 4 then
              if ib x6 4 then
                nm (sL μ3 35 (ix x6) (-(gL μ3 35 (ix x6)))) (fun μ6 =>
                  nm (x6 + 1) (fun v7 =>
                    (f_M_takesPart_l404 N n) v7 μ6
                  )
                )
              else none
            else none
          )
        else none
      else none
    )
def f_M_takesPart_l246 (N : Nat) : Nat → Int32 → Int32 → Int32 → Int32 → Int32 → Int32 → Mem → Option (Mem)
  | 0, _, _, _, _, _, _, _ => none
  | n + 1, x1, x2, x3, x4, x5, x6, μ =>
    if (4 : Int32) ≤ x6 then (
      if (0 : Int64) ≤ (gL μ 0 46) then (
        some μ
      ) else (
        nm (sL μ 0 46 (-(gL μ 0 46))) (fun μ1 =>
          nm (sL μ1 0 47 (-(gL μ1 0 47))) (fun μ2 =>
            f_M_takesPart_l404 N N 0 μ2
          )
        )
      )
    ) else (
      if ib x6 4 then
        nm (sL μ 34 (ix x6) 0) (fun μ4 =>
          if ib x6 4 then
            nm (sL μ4 35 (ix x6) 0) (fun μ6 =>
              if ¬ ((x1 >>> (x6 &&& 31)) &&& 1) = (1 : Int32) then (
                f_M_takesPart_b318 N (f_M_takesPart_l246 N n) x1 x2 x3 x4 x5 x6 μ6
              ) else (
                f_M_takesPart_l281 N (f_M_takesPart_l246 N n) N x1 x2 x3 x4 x5 x6 0 μ6
              )
            )
          else none
        )
      else none
    )
def f_M_takesPart_l199 (N : Nat) : Nat → Int32 → Int32 → Int32 → Int32 → Mem → Option (Mem)
  | 0, _, _, _, _, _ => none
  | n + 1, x1, x2, x3, x4, μ =>
    if x3 ≤ x4 then (
      f_M_takesPart_l246 N N x1 x2 x3 0 0 0 μ
    ) else (
      if ib x4 16 then
        if ib ((4 : Int32) * x4) 16 then
          nm (sL μ 0 47 ((gL μ 0 47) + ((gL μ 32 (ix x4)) * (gL μ 33 (ix ((4 : Int32) * x4)))))) (fun μ3 =>
            nm (x4 + 1) (fun v4 =>
              (f_M_takesPart_l199 N n) x1 x2 x3 v4 μ3
            )
          )
        else none
      else none
    )
def f_M_takesPart_l107 (N : Nat) : Nat → Int32 → Int32 → Int32 → Int32 → Mem → Option (Mem)
  | 0, _, _, _, _, _ => none
  | n + 1, x1, x2, x3, x4, μ =>
    if x3 ≤ x4 then (
      f_M_takesPart_l199 N N x1 x2 x3 0 μ
    ) else (
      f_M_takesPart_l116 N (f_M_takesPart_l107 N n) N x1 x2 x3 x4 0 μ
    )
def f_M_takesPart_l5 (N : Nat) : Nat → Int32 → Int32 → Int32 → Int32 → Mem → Option (Mem)
  | 0, _, _, _, _, _ => none
  | n + 1, x1, x2, x3, x4, μ =>
    if (gI μ 0 37) ≤ x4 then (
      nm (sL μ 0 46 0) (fun μ1 =>
        nm (sL μ1 0 47 0) (fun μ2 =>
          f_M_takesPart_l107 N N x1 x2 x3 0 μ2
        )
      )
    ) else (
      if ¬ ((x1 >>> (x4 &&& 31)) &&& 1) = (1 : Int32) then (
        f_M_takesPart_b88 N (f_M_takesPart_l5 N n) x1 x2 x3 x4 μ
      ) else (
        f_M_takesPart_l30 N (f_M_takesPart_l5 N n) N x1 x2 x3 x4 0 0 μ
      )
    )
def f_M_takesPart (N : Nat) (μ : Mem) (x1 : Int32) (x2 : Int32) : Option (Mem) :=
  f_M_takesPart_l5 N N x1 x2 0 0 μ
/-- TopYardModel.isMix()Z -/
def f_M_isMix_b53 (N : Nat) (μ : Mem) (k17 : Int32 → Int32 → Option (Int32)) (x2 : Int32) (xs0 : Int32) : Option (Int32) :=
  nm (x2 + 1) (fun v1 =>
    k17 xs0 v1
  )
def f_M_isMix_b52 (N : Nat) (μ : Mem) (k17 : Int32 → Int32 → Option (Int32)) (x2 : Int32) : Option (Int32) :=
  f_M_isMix_b53 N μ k17 x2 0
def f_M_isMix_b134 (N : Nat) (μ : Mem) (k62 : Int32 → Int32 → Option (Int32)) (x2 : Int32) (xs0 : Int32) : Option (Int32) :=
  nm (x2 + 1) (fun v1 =>
    k62 xs0 v1
  )
def f_M_isMix_b133 (N : Nat) (μ : Mem) (k62 : Int32 → Int32 → Option (Int32)) (x2 : Int32) : Option (Int32) :=
  f_M_isMix_b134 N μ k62 x2 0
def f_M_isMix_l75 (N : Nat) (μ : Mem) (k62 : Int32 → Int32 → Option (Int32)) : Nat → Int32 → Int32 → Int64 → Int32 → Option (Int32)
  | 0, _, _, _, _ => none
  | n + 1, x1, x2, x3, x5 =>
    if (gI μ 0 37) ≤ x5 then (
      if x1 = 0 then (
        f_M_isMix_b133 N μ k62 x2
      ) else (
        if x3 < (gL μ 0 47) then (
          f_M_isMix_b133 N μ k62 x2
        ) else (
          f_M_isMix_b134 N μ k62 x2 1
        )
      )
    ) else (
      if ib (((4 : Int32) * x5) + x2) 16 then
        if ib x5 4 then
          nm (x3 + ((((gI μ 31 (ix (((4 : Int32) * x5) + x2))) + 20).toInt64) * (gL μ 34 (ix x5)))) (fun v3 =>
            nm (x5 + 1) (fun v4 =>
              (f_M_isMix_l75 N μ k62 n) x1 x2 v3 v4
            )
          )
        else none
      else none
    )
def f_M_isMix_b215 (N : Nat) (μ : Mem) (k143 : Int32 → Int32 → Option (Int32)) (x2 : Int32) (xs0 : Int32) : Option (Int32) :=
  nm (x2 + 1) (fun v1 =>
    k143 xs0 v1
  )
def f_M_isMix_b214 (N : Nat) (μ : Mem) (k143 : Int32 → Int32 → Option (Int32)) (x2 : Int32) : Option (Int32) :=
  f_M_isMix_b215 N μ k143 x2 0
def f_M_isMix_l156 (N : Nat) (μ : Mem) (k143 : Int32 → Int32 → Option (Int32)) : Nat → Int32 → Int32 → Int64 → Int32 → Option (Int32)
  | 0, _, _, _, _ => none
  | n + 1, x1, x2, x3, x5 =>
    if (gI μ 0 38) ≤ x5 then (
      if x1 = 0 then (
        f_M_isMix_b214 N μ k143 x2
      ) else (
        if (gL μ 0 47) < x3 then (
          f_M_isMix_b214 N μ k143 x2
        ) else (
          f_M_isMix_b215 N μ k143 x2 1
        )
      )
    ) else (
      if ib (((4 : Int32) * x2) + x5) 16 then
        if ib x5 4 then
          nm (x3 + ((((gI μ 31 (ix (((4 : Int32) * x2) + x5))) + 20).toInt64) * (gL μ 35 (ix x5)))) (fun v3 =>
            nm (x5 + 1) (fun v4 =>
              (f_M_isMix_l156 N μ k143 n) x1 x2 v3 v4
            )
          )
        else none
      else none
    )
def f_M_isMix_l143 (N : Nat) (μ : Mem) : Nat → Int32 → Int32 → Option (Int32)
  | 0, _, _ => none
  | n + 1, x1, x2 =>
    if (gI μ 0 37) ≤ x2 then (
      if x1 = 0 ∨ x1 = 1 then some x1 else none
    ) else (
      f_M_isMix_l156 N μ (f_M_isMix_l143 N μ n) N x1 x2 0 0
    )
def f_M_isMix_l62 (N : Nat) (μ : Mem) : Nat → Int32 → Int32 → Option (Int32)
  | 0, _, _ => none
  | n + 1, x1, x2 =>
    if (gI μ 0 38) ≤ x2 then (
      f_M_isMix_l143 N μ N x1 0
    ) else (
      f_M_isMix_l75 N μ (f_M_isMix_l62 N μ n) N x1 x2 0 0
    )
def f_M_isMix_l17 (N : Nat) (μ : Mem) : Nat → Int32 → Int32 → Option (Int32)
  | 0, _, _ => none
  | n + 1, x1, x2 =>
    if (4 : Int32) ≤ x2 then (
      f_M_isMix_l62 N μ N x1 0
    ) else (
      if x1 = 0 then (
        f_M_isMix_b52 N μ (f_M_isMix_l17 N μ n) x2
      ) else (
        if ib x2 4 then
          if (gL μ 34 (ix x2)) < (0 : Int64) then (
            f_M_isMix_b52 N μ (f_M_isMix_l17 N μ n) x2
          ) else (
            if ib x2 4 then
              if (gL μ 35 (ix x2)) < (0 : Int64) then (
                f_M_isMix_b52 N μ (f_M_isMix_l17 N μ n) x2
              ) else (
                f_M_isMix_b53 N μ (f_M_isMix_l17 N μ n) x2 1
              )
            else none
          )
        else none
      )
    )
def f_M_isMix_b14 (N : Nat) (μ : Mem) (xs0 : Int32) : Option (Int32) :=
  f_M_isMix_l17 N μ N xs0 0
def f_M_isMix (N : Nat) (μ : Mem) : Option (Int32) :=
  if (gL μ 0 46) ≤ (0 : Int64) then (
    f_M_isMix_b14 N μ 0
  ) else (
    f_M_isMix_b14 N μ 1
  )
/-- TopYardModel.findMix()Z -/
def f_M_findMix_b62 (N : Nat) (k2 : Int32 → Mem → Option (Int32 × Mem)) (k9 : Int32 → Int32 → Mem → Option (Int32 × Mem)) (k21 : Int32 → Int32 → Int32 → Mem → Option (Int32 × Mem)) (x1 : Int32) (x2 : Int32) (x3 : Int32) (μ : Mem) : Option (Int32 × Mem) :=
  nm (x3 + 1) (fun v1 =>
    k21 x1 x2 v1 μ
  )
def f_M_findMix_l21 (N : Nat) (k2 : Int32 → Mem → Option (Int32 × Mem)) (k9 : Int32 → Int32 → Mem → Option (Int32 × Mem)) : Nat → Int32 → Int32 → Int32 → Mem → Option (Int32 × Mem)
  | 0, _, _, _, _ => none
  | n + 1, x1, x2, x3, μ =>
    if ((1 : Int32) <<< ((gI μ 0 38) &&& 31)) ≤ x3 then (
      nm (x2 + 1) (fun v1 =>
        k9 x1 v1 μ
      )
    ) else (
      Option.bind (f_M_ones N x2) (fun v2 =>
        if ¬ v2 = x1 then (
          f_M_findMix_b62 N k2 k9 (f_M_findMix_l21 N k2 k9 n) x1 x2 x3 μ
        ) else (
          Option.bind (f_M_ones N x3) (fun v3 =>
            if ¬ v3 = x1 then (
              f_M_findMix_b62 N k2 k9 (f_M_findMix_l21 N k2 k9 n) x1 x2 x3 μ
            ) else (
              Option.bind (f_M_takesPart N μ x2 x3) (fun μ4 =>
                Option.bind (f_M_isMix N μ4) (fun v5 =>
                  if v5 = 0 then (
                    f_M_findMix_b62 N k2 k9 (f_M_findMix_l21 N k2 k9 n) x1 x2 x3 μ4
                  ) else (
                    some (1, μ4)
                  )
                )
              )
            )
          )
        )
      )
    )
def f_M_findMix_l9 (N : Nat) (k2 : Int32 → Mem → Option (Int32 × Mem)) : Nat → Int32 → Int32 → Mem → Option (Int32 × Mem)
  | 0, _, _, _ => none
  | n + 1, x1, x2, μ =>
    if ((1 : Int32) <<< ((gI μ 0 37) &&& 31)) ≤ x2 then (
      nm (x1 + 1) (fun v1 =>
        k2 v1 μ
      )
    ) else (
      f_M_findMix_l21 N k2 (f_M_findMix_l9 N k2 n) N x1 x2 1 μ
    )
def f_M_findMix_l2 (N : Nat) : Nat → Int32 → Mem → Option (Int32 × Mem)
  | 0, _, _ => none
  | n + 1, x1, μ =>
    if (5 : Int32) ≤ x1 then (
      some (0, μ)
    ) else (
      f_M_findMix_l9 N (f_M_findMix_l2 N n) N x1 1 μ
    )
def f_M_findMix (N : Nat) (μ : Mem) : Option (Int32 × Mem) :=
  f_M_findMix_l2 N N 1 μ
/-- TopYardModel.value()I -/
def f_M_value (N : Nat) (μ : Mem) : Option (Int32 × Mem) :=
  if (gI μ 0 37) = 0 then (
    some ((-2147483648), μ)
  ) else (
    if (gI μ 0 38) = 0 then (
      some ((-2147483648), μ)
    ) else (
      bM2 (f_M_findMix N μ) (fun v1 μ2 =>
        if ¬ v1 = 0 then (
          nm ((1000000 : Int64) * ((gL μ2 0 47) - ((20 : Int64) * (gL μ2 0 46)))) (fun v3 =>
            if (gL μ2 0 46) = 0 then none else
            nm (v3 / (gL μ2 0 46)) (fun v4 =>
              if (v4 * (gL μ2 0 46)) ≤ v3 then (
                some (v4.toInt32, μ2)
              ) else (
                some ((v4 - 1).toInt32, μ2)
              )
            )
          )
        ) else (
          some ((-2147483648), μ2)
        )
      )
    )
  )
/-- TopYardModel.mix(II)I -/
def f_M_mix_b86 (N : Nat) (xs0 : Int64) (xs1 : Int64) (μ : Mem) : Option (Int32 × Mem) :=
  if (gL μ 0 46) = 0 then none else
  some (((xs1 * xs0) / (gL μ 0 46)).toInt32, μ)
def f_M_mix_b28 (N : Nat) (x1 : Int32) (x2 : Int32) (xs0 : Int32) (xs1 : Int64) (xs2 : Int64) (μ : Mem) : Option (Int32 × Mem) :=
  Option.bind (f_M_in xs2 xs1 ((xs0 - 1).toInt64)) (fun v1 =>
    if ¬ v1 = 0 then (
      if (gI μ 0 37) = 0 then (
        some ((-3), μ)
      ) else (
        if (gI μ 0 38) = 0 then (
          some ((-3), μ)
        ) else (
          bM2 (f_M_findMix N μ) (fun v2 μ3 =>
            if ¬ v2 = 0 then (
              if ¬ x1 = 0 then (
                if ib x2 4 then
                  f_M_mix_b86 N (gL μ3 35 (ix x2)) 1000000 μ3
                else none
              ) else (
                if ib x2 4 then
                  f_M_mix_b86 N (gL μ3 34 (ix x2)) 1000000 μ3
                else none
              )
            ) else (
              some ((-3), μ3)
            )
          )
        )
      )
    ) else (
      some ((-2), μ)
    )
  )
def f_M_mix (N : Nat) (μ : Mem) (x1 : Int32) (x2 : Int32) : Option (Int32 × Mem) :=
  Option.bind (f_M_in (x1.toInt64) 0 1) (fun v1 =>
    if v1 = 0 then (
      some ((-2), μ)
    ) else (
      if ¬ x1 = 0 then (
        f_M_mix_b28 N x1 x2 (gI μ 0 38) 0 (x2.toInt64) μ
      ) else (
        f_M_mix_b28 N x1 x2 (gI μ 0 37) 0 (x2.toInt64) μ
      )
    )
  )
/-- TopYardModel.was(III)I -/
def f_M_was (μ : Mem) (x1 : Int32) (x2 : Int32) (x3 : Int32) : Option (Int32 × Mem) :=
  Option.bind (f_M_isTop μ x1) (fun v1 =>
    if v1 = 0 then (
      some ((-2), μ)
    ) else (
      Option.bind (f_M_isTop μ x2) (fun v2 =>
        if v2 = 0 then (
          some ((-2), μ)
        ) else (
          if x1 = x2 then (
            some ((-2), μ)
          ) else (
            Option.bind (f_M_in (x3.toInt64) (-1) 2) (fun v3 =>
              if ¬ v3 = 0 then (
                if ¬ (gI μ 0 48) = (40 : Int32) then (
                  if ib (gI μ 0 48) 40 then
                    nm (sI μ 36 (ix (gI μ 0 48)) x1) (fun μ5 =>
                      if ib (gI μ5 0 48) 40 then
                        nm (sI μ5 37 (ix (gI μ5 0 48)) x2) (fun μ7 =>
                          if ib (gI μ7 0 48) 40 then
                            nm (sI μ7 38 (ix (gI μ7 0 48)) x3) (fun μ9 =>
                              nm (sI μ9 0 48 ((gI μ9 0 48) + 1)) (fun μ10 =>
                                some ((gI μ10 0 48), μ10)
                              )
                            )
                          else none
                        )
                      else none
                    )
                  else none
                ) else (
                  some ((-4), μ)
                )
              ) else (
                some ((-2), μ)
              )
            )
          )
        )
      )
    )
  )
/-- TopYardModel.forget()I -/
def f_M_forget (μ : Mem) : Option (Int32 × Mem) :=
  nm (gI μ 0 48) (fun v1 =>
    nm (sI μ 0 48 0) (fun μ2 =>
      some (v1, μ2)
    )
  )
/-- TopYardModel.isSheet(I)Z -/
def f_M_isSheet (x0 : Int32) : Option (Int32) :=
  Option.bind (f_M_in (x0.toInt64) 0 3) (fun v1 =>
    if v1 = 0 ∨ v1 = 1 then some v1 else none
  )
/-- TopYardModel.met(I)I -/
def f_M_met2 (μ : Mem) (x1 : Int32) : Option (Int32 × Mem) :=
  nm (sI μ 0 66 x1) (fun μ1 =>
    some (((-10 : Int32) - x1), μ1)
  )
/-- TopYardModel.read(I)I -/
def f_M_read_l27 (N : Nat) : Nat → Int32 → Int32 → Mem → Option (Int32 × Mem)
  | 0, _, _, _ => none
  | n + 1, x1, x2, μ =>
    if ib x1 4 then
      if (gI μ 46 (ix x1)) ≤ (((3 : Int32) * x2) + 2) then (
        some (x2, μ)
      ) else (
        if ib (((120 : Int32) * x1) + ((3 : Int32) * x2)) 480 then
          if ib ((((120 : Int32) * x1) + ((3 : Int32) * x2)) + 1) 480 then
            if ib ((((120 : Int32) * x1) + ((3 : Int32) * x2)) + 2) 480 then
              bM2 (f_M_was μ (gI μ 47 (ix (((120 : Int32) * x1) + ((3 : Int32) * x2)))) (gI μ 47 (ix ((((120 : Int32) * x1) + ((3 : Int32) * x2)) + 1))) (gI μ 47 (ix ((((120 : Int32) * x1) + ((3 : Int32) * x2)) + 2)))) (fun v5 μ6 =>
                if v5 ≤ 0 then (
                  some (x2, μ6)
                ) else (
                  nm (x2 + 1) (fun v7 =>
                    (f_M_read_l27 N n) x1 v7 μ6
                  )
                )
              )
            else none
          else none
        else none
      )
    else none
def f_M_read (N : Nat) (μ : Mem) (x1 : Int32) : Option (Int32 × Mem) :=
  Option.bind (f_M_isSheet x1) (fun v1 =>
    if ¬ v1 = 0 then (
      if ib x1 4 then
        if 0 ≤ (gI μ 45 (ix x1)) then (
          f_M_read_l27 N N x1 0 μ
        ) else (
          bM2 (f_M_met2 μ 1) (fun v3 μ4 =>
            some (v3, μ4)
          )
        )
      else none
    ) else (
      some ((-2), μ)
    )
  )
/-- TopYardModel.isOf(II)Z -/
def f_M_isOf_b30 (μ : Mem) : Option (Int32) :=
  some 1
def f_M_isOf (μ : Mem) (x1 : Int32) (x2 : Int32) : Option (Int32) :=
  if ib x1 40 then
    if (gI μ 38 (ix x1)) = (2 : Int32) then (
      some 0
    ) else (
      if ib x1 40 then
        if (gI μ 36 (ix x1)) = x2 then (
          f_M_isOf_b30 μ
        ) else (
          if ib x1 40 then
            if ¬ (gI μ 37 (ix x1)) = x2 then (
              some 0
            ) else (
              f_M_isOf_b30 μ
            )
          else none
        )
      else none
    )
  else none
/-- TopYardModel.findWorn(I)V -/
def f_M_findWorn_b112 (N : Nat) (k12 : Int32 → Int32 → Mem → Option (Mem)) (x1 : Int32) (x2 : Int32) (μ : Mem) : Option (Mem) :=
  nm (x2 + 1) (fun v1 =>
    k12 x1 v1 μ
  )
def f_M_findWorn_b108 (N : Nat) (k12 : Int32 → Int32 → Mem → Option (Mem)) (x1 : Int32) (x2 : Int32) (xs0 : Int32) (xs1 : Int32) (μ : Mem) : Option (Mem) :=
  nm (sI μ 0 53 (xs1 + xs0)) (fun μ1 =>
    f_M_findWorn_b112 N k12 x1 x2 μ1
  )
def f_M_findWorn_b88 (N : Nat) (k12 : Int32 → Int32 → Mem → Option (Mem)) (x1 : Int32) (x2 : Int32) (x4 : Int32) (xs0 : Int32) (xs1 : Int32) (μ : Mem) : Option (Mem) :=
  nm (sI μ 0 52 (xs1 + xs0)) (fun μ1 =>
    if x4 ≤ (-1 : Int32) then (
      f_M_findWorn_b108 N k12 x1 x2 0 (gI μ1 0 53) μ1
    ) else (
      f_M_findWorn_b108 N k12 x1 x2 1 (gI μ1 0 53) μ1
    )
  )
def f_M_findWorn_b44 (N : Nat) (k12 : Int32 → Int32 → Mem → Option (Mem)) (x1 : Int32) (x2 : Int32) (xs0 : Int32) (μ : Mem) : Option (Mem) :=
  if ib x2 40 then
    if ib x2 40 then
      bM2 (f_M_expectedOf N μ (gI μ 36 (ix x2)) (gI μ 37 (ix x2))) (fun v3 μ4 =>
        nm (xs0 * v3) (fun v5 =>
          if ib x2 40 then
            if v5 ≤ (xs0 * (gI μ4 38 (ix x2))) then (
              f_M_findWorn_b88 N k12 x1 x2 v5 0 (gI μ4 0 52) μ4
            ) else (
              f_M_findWorn_b88 N k12 x1 x2 v5 1 (gI μ4 0 52) μ4
            )
          else none
        )
      )
    else none
  else none
def f_M_findWorn_l12 (N : Nat) : Nat → Int32 → Int32 → Mem → Option (Mem)
  | 0, _, _, _ => none
  | n + 1, x1, x2, μ =>
    if (gI μ 0 48) ≤ x2 then (
      some μ
    ) else (
      Option.bind (f_M_isOf μ x2 x1) (fun v1 =>
        if v1 = 0 then (
          f_M_findWorn_b112 N (f_M_findWorn_l12 N n) x1 x2 μ
        ) else (
          if ib x2 40 then
            if ¬ (gI μ 36 (ix x2)) = x1 then (
              f_M_findWorn_b44 N (f_M_findWorn_l12 N n) x1 x2 (-1) μ
            ) else (
              f_M_findWorn_b44 N (f_M_findWorn_l12 N n) x1 x2 1 μ
            )
          else none
        )
      )
    )
def f_M_findWorn (N : Nat) (μ : Mem) (x1 : Int32) : Option (Mem) :=
  nm (sI μ 0 52 0) (fun μ1 =>
    nm (sI μ1 0 53 0) (fun μ2 =>
      f_M_findWorn_l12 N N x1 0 μ2
    )
  )
/-- TopYardModel.doubt()I -/
def f_M_doubt_b31 (N : Nat) (μ : Mem) (k7 : Int64 → Int64 → Int32 → Option (Int32)) (x1 : Int64) (x5 : Int32) (xs0 : Int64) (xs1 : Int64) : Option (Int32) :=
  nm (xs1 + xs0) (fun v1 =>
    if (x5 + 1).toInt64 = 0 then none else
    nm ((x1 * ((gI μ 0 53) - x5).toInt64) / (x5 + 1).toInt64) (fun v2 =>
      nm (x5 + 1) (fun v3 =>
        k7 v2 v1 v3
      )
    )
  )
def f_M_doubt_l7 (N : Nat) (μ : Mem) : Nat → Int64 → Int64 → Int32 → Option (Int32)
  | 0, _, _, _ => none
  | n + 1, x1, x3, x5 =>
    if (gI μ 0 53) < x5 then (
      if ((1 : Int64) <<< ((gI μ 0 53).toInt64 &&& 63)) = 0 then none else
      some ((((1000000 : Int64) * x3) / ((1 : Int64) <<< ((gI μ 0 53).toInt64 &&& 63))).toInt32)
    ) else (
      if x5 < (gI μ 0 52) then (
        f_M_doubt_b31 N μ (f_M_doubt_l7 N μ n) x1 x5 0 x3
      ) else (
        f_M_doubt_b31 N μ (f_M_doubt_l7 N μ n) x1 x5 x1 x3
      )
    )
def f_M_doubt (N : Nat) (μ : Mem) : Option (Int32) :=
  f_M_doubt_l7 N μ N 1 0 0
/-- TopYardModel.worn(II)I -/
def f_M_worn (N : Nat) (μ : Mem) (x1 : Int32) (x2 : Int32) : Option (Int32 × Mem) :=
  Option.bind (f_M_isTop μ x1) (fun v1 =>
    if v1 = 0 then (
      some ((-2), μ)
    ) else (
      Option.bind (f_M_in (x2.toInt64) 0 2) (fun v2 =>
        if ¬ v2 = 0 then (
          Option.bind (f_M_findWorn N μ x1) (fun μ3 =>
            if ¬ x2 = 0 then (
              if ¬ x2 = (1 : Int32) then (
                Option.bind (f_M_doubt N μ3) (fun v4 =>
                  some (v4, μ3)
                )
              ) else (
                some ((gI μ3 0 53), μ3)
              )
            ) else (
              some ((gI μ3 0 52), μ3)
            )
          )
        ) else (
          some ((-2), μ)
        )
      )
    )
  )
/-- TopYardModel.most()I -/
def f_M_most_b46 (N : Nat) (k6 : Int32 → Int32 → Int32 → Mem → Option (Int32 × Mem)) (x1 : Int32) (x2 : Int32) (x3 : Int32) (μ : Mem) : Option (Int32 × Mem) :=
  nm (x3 + 1) (fun v1 =>
    k6 x1 x2 v1 μ
  )
def f_M_most_b39 (N : Nat) (k6 : Int32 → Int32 → Int32 → Mem → Option (Int32 × Mem)) (x3 : Int32) (μ : Mem) : Option (Int32 × Mem) :=
  Option.bind (f_M_doubt N μ) (fun v1 =>
    f_M_most_b46 N k6 x3 v1 x3 μ
  )
def f_M_most_l6 (N : Nat) : Nat → Int32 → Int32 → Int32 → Mem → Option (Int32 × Mem)
  | 0, _, _, _, _ => none
  | n + 1, x1, x2, x3, μ =>
    if (gI μ 0 1) ≤ x3 then (
      some (x1, μ)
    ) else (
      Option.bind (f_M_findWorn N μ x3) (fun μ1 =>
        if (gI μ1 0 53) ≤ 0 then (
          f_M_most_b46 N (f_M_most_l6 N n) x1 x2 x3 μ1
        ) else (
          if x1 = (-1 : Int32) then (
            f_M_most_b39 N (f_M_most_l6 N n) x3 μ1
          ) else (
            Option.bind (f_M_doubt N μ1) (fun v2 =>
              if x2 ≤ v2 then (
                f_M_most_b46 N (f_M_most_l6 N n) x1 x2 x3 μ1
              ) else (
                f_M_most_b39 N (f_M_most_l6 N n) x3 μ1
              )
            )
          )
        )
      )
    )
def f_M_most (N : Nat) (μ : Mem) : Option (Int32 × Mem) :=
  f_M_most_l6 N N (-1) 0 0 μ
/-- TopYardModel.explained(II)I -/
def f_M_explained_b112 (N : Nat) (k37 : Int32 → Int32 → Int32 → Int32 → Int32 → Int32 → Mem → Option (Int32 × Mem)) (k58 : Int32 → Int32 → Int32 → Int32 → Int32 → Int32 → Int32 → Int32 → Mem → Option (Int32 × Mem)) (x1 : Int32) (x2 : Int32) (x3 : Int32) (x4 : Int32) (x5 : Int32) (x6 : Int32) (x8 : Int32) (xs0 : Int32) (xs1 : Int32) (μ : Mem) : Option (Int32 × Mem) :=
  nm (xs1 + xs0) (fun v1 =>
    nm (x8 + 1) (fun v2 =>
      k58 x1 x2 x3 x4 x5 x6 v1 v2 μ
    )
  )
def f_M_explained_b111 (N : Nat) (k37 : Int32 → Int32 → Int32 → Int32 → Int32 → Int32 → Mem → Option (Int32 × Mem)) (k58 : Int32 → Int32 → Int32 → Int32 → Int32 → Int32 → Int32 → Int32 → Mem → Option (Int32 × Mem)) (x1 : Int32) (x2 : Int32) (x3 : Int32) (x4 : Int32) (x5 : Int32) (x6 : Int32) (x8 : Int32) (xs0 : Int32) (μ : Mem) : Option (Int32 × Mem) :=
  f_M_explained_b112 N k37 k58 x1 x2 x3 x4 x5 x6 x8 0 xs0 μ
def f_M_explained_b136 (N : Nat) (k37 : Int32 → Int32 → Int32 → Int32 → Int32 → Int32 → Mem → Option (Int32 × Mem)) (x1 : Int32) (x2 : Int32) (x3 : Int32) (x4 : Int32) (x5 : Int32) (x6 : Int32) (μ : Mem) : Option (Int32 × Mem) :=
  nm (x6 + 1) (fun v1 =>
    k37 x1 x2 x3 x4 x5 v1 μ
  )
def f_M_explained_l58 (N : Nat) (k37 : Int32 → Int32 → Int32 → Int32 → Int32 → Int32 → Mem → Option (Int32 × Mem)) : Nat → Int32 → Int32 → Int32 → Int32 → Int32 → Int32 → Int32 → Int32 → Mem → Option (Int32 × Mem)
  | 0, _, _, _, _, _, _, _, _, _ => none
  | n + 1, x1, x2, x3, x4, x5, x6, x7, x8, μ =>
    if (gI μ 0 48) ≤ x8 then (
      if x7 ≤ x5 then (
        f_M_explained_b136 N k37 x1 x2 x3 x4 x5 x6 μ
      ) else (
        f_M_explained_b136 N k37 x1 x2 x3 x6 x7 x6 μ
      )
    ) else (
      Option.bind (f_M_isOf μ x8 x1) (fun v1 =>
        if v1 = 0 then (
          f_M_explained_b111 N k37 (f_M_explained_l58 N k37 n) x1 x2 x3 x4 x5 x6 x8 x7 μ
        ) else (
          if ib x8 40 then
            if ib x8 40 then
              bM2 (f_M_expectedOf N μ (gI μ 36 (ix x8)) (gI μ 37 (ix x8))) (fun v4 μ5 =>
                if ib x8 40 then
                  if ¬ v4 = (gI μ5 38 (ix x8)) then (
                    f_M_explained_b111 N k37 (f_M_explained_l58 N k37 n) x1 x2 x3 x4 x5 x6 x8 x7 μ5
                  ) else (
                    f_M_explained_b112 N k37 (f_M_explained_l58 N k37 n) x1 x2 x3 x4 x5 x6 x8 1 x7 μ5
                  )
                else none
              )
            else none
          else none
        )
      )
    )
def f_M_explained_l37 (N : Nat) : Nat → Int32 → Int32 → Int32 → Int32 → Int32 → Int32 → Mem → Option (Int32 × Mem)
  | 0, _, _, _, _, _, _, _ => none
  | n + 1, x1, x2, x3, x4, x5, x6, μ =>
    if (10 : Int32) ≤ x6 then (
      if ib x1 40 then
        nm (sI μ 7 (ix x1) x3) (fun μ2 =>
          if ¬ x2 = 0 then (
            some (x5, μ2)
          ) else (
            some (x4, μ2)
          )
        )
      else none
    ) else (
      if ib x1 40 then
        nm (sI μ 7 (ix x1) x6) (fun μ4 =>
          f_M_explained_l58 N (f_M_explained_l37 N n) N x1 x2 x3 x4 x5 x6 0 0 μ4
        )
      else none
    )
def f_M_explained (N : Nat) (μ : Mem) (x1 : Int32) (x2 : Int32) : Option (Int32 × Mem) :=
  Option.bind (f_M_isTop μ x1) (fun v1 =>
    if v1 = 0 then (
      some ((-2), μ)
    ) else (
      Option.bind (f_M_in (x2.toInt64) 0 1) (fun v2 =>
        if ¬ v2 = 0 then (
          if ib x1 40 then
            nm (gI μ 7 (ix x1)) (fun v4 =>
              f_M_explained_l37 N N x1 x2 v4 0 (-1) 0 μ
            )
          else none
        ) else (
          some ((-2), μ)
        )
      )
    )
  )
/-- TopYardModel.type(I)I -/
def f_M_type (μ : Mem) (x1 : Int32) : Option (Int32 × Mem) :=
  Option.bind (f_M_in (x1.toInt64) 0 255) (fun v1 =>
    if ¬ v1 = 0 then (
      if ¬ (gI μ 0 55) = (40 : Int32) then (
        if ib (gI μ 0 55) 40 then
          nm (sI μ 39 (ix (gI μ 0 55)) x1) (fun μ3 =>
            nm (sI μ3 0 55 ((gI μ3 0 55) + 1)) (fun μ4 =>
              some ((gI μ4 0 55), μ4)
            )
          )
        else none
      ) else (
        some ((-4), μ)
      )
    ) else (
      some ((-2), μ)
    )
  )
/-- TopYardModel.wipe()I -/
def f_M_wipe (μ : Mem) : Option (Int32 × Mem) :=
  nm (gI μ 0 55) (fun v1 =>
    nm (sI μ 0 55 0) (fun μ2 =>
      some (v1, μ2)
    )
  )
/-- TopYardModel.ruleOf(I)I -/
def f_M_ruleOf (x0 : Int32) : Option (Int32) :=
  if x0 = 98 then (
    some 1
  ) else
  if x0 = 107 then (
    some 4
  ) else
  if x0 = 114 then (
    some 2
  ) else
  if x0 = 116 then (
    some 3
  ) else
  if x0 = 119 then (
    some 0
  ) else
  (
    some (-1)
  )
/-- TopYardModel.isRule(II)Z -/
def f_M_isRule (x0 : Int32) (x1 : Int32) : Option (Int32) :=
  if x0 = 0 then (
    Option.bind (f_M_in (x1.toInt64) 1 9) (fun v1 =>
      if v1 = 0 ∨ v1 = 1 then some v1 else none
    )
  ) else
  if x0 = 1 then (
    Option.bind (f_M_in (x1.toInt64) 1 20) (fun v5 =>
      if v5 = 0 ∨ v5 = 1 then some v5 else none
    )
  ) else
  if x0 = 2 then (
    Option.bind (f_M_in (x1.toInt64) 0 30) (fun v9 =>
      if v9 = 0 ∨ v9 = 1 then some v9 else none
    )
  ) else
  if x0 = 3 then (
    Option.bind (f_M_in (x1.toInt64) 1 60) (fun v13 =>
      if v13 = 0 ∨ v13 = 1 then some v13 else none
    )
  ) else
  (
    Option.bind (f_M_in (x1.toInt64) 0 3) (fun v17 =>
      if v17 = 0 ∨ v17 = 1 then some v17 else none
    )
  )
/-- TopYardModel.isFigure(I)Z -/
def f_M_isFigure (μ : Mem) (x1 : Int32) : Option (Int32) :=
  if (gI μ 0 55) ≤ x1 then (
    some 0
  ) else (
    if ib x1 40 then
      Option.bind (f_M_in ((gI μ 39 (ix x1)).toInt64) 48 57) (fun v2 =>
        if v2 = 0 then (
          some 0
        ) else (
          some 1
        )
      )
    else none
  )
/-- TopYardModel.reads()V -/
def f_M_reads_b90 (N : Nat) (x2 : Int32) (μ : Mem) : Option (Mem) :=
  nm (sI μ 0 56 x2) (fun μ1 =>
    some μ1
  )
def f_M_reads_b169 (N : Nat) (x5 : Int32) (μ : Mem) : Option (Mem) :=
  nm (sI μ 0 56 x5) (fun μ1 =>
    some μ1
  )
def f_M_reads_b220 (N : Nat) (k47 : Int32 → Int32 → Int32 → Mem → Option (Mem)) (x1 : Int32) (x2 : Int32) (x3 : Int32) (μ : Mem) : Option (Mem) :=
  nm (x2 + 1) (fun v1 =>
    k47 x1 v1 x3 μ
  )
def f_M_reads_b198 (N : Nat) (k47 : Int32 → Int32 → Int32 → Mem → Option (Mem)) (x1 : Int32) (x2 : Int32) (xs0 : Int32) (μ : Mem) : Option (Mem) :=
  if xs0 = 0 then (
    f_M_reads_b220 N k47 x1 x2 xs0 μ
  ) else (
    if ib x2 40 then
      if (gI μ 39 (ix x2)) = (59 : Int32) then (
        f_M_reads_b220 N k47 x1 x2 xs0 μ
      ) else (
        nm (sI μ 0 56 x2) (fun μ2 =>
          some μ2
        )
      )
    else none
  )
def f_M_reads_b153 (N : Nat) (k47 : Int32 → Int32 → Int32 → Mem → Option (Mem)) (x1 : Int32) (x2 : Int32) (x4 : Int32) (x5 : Int32) (x6 : Int32) (μ : Mem) : Option (Mem) :=
  if x2 = x5 then (
    f_M_reads_b169 N x5 μ
  ) else (
    Option.bind (f_M_isRule x4 x6) (fun v1 =>
      if ¬ v1 = 0 then (
        if ib x4 5 then
          nm (sI μ 40 (ix x4) x6) (fun μ3 =>
            if (gI μ3 0 55) ≤ x2 then (
              f_M_reads_b198 N k47 x1 x2 0 μ3
            ) else (
              f_M_reads_b198 N k47 x1 x2 1 μ3
            )
          )
        else none
      ) else (
        f_M_reads_b169 N x5 μ
      )
    )
  )
def f_M_reads_l114 (N : Nat) (k47 : Int32 → Int32 → Int32 → Mem → Option (Mem)) : Nat → Int32 → Int32 → Int32 → Int32 → Int32 → Mem → Option (Mem)
  | 0, _, _, _, _, _, _ => none
  | n + 1, x1, x2, x4, x5, x6, μ =>
    if (x5 + 2) ≤ x2 then (
      f_M_reads_b153 N k47 x1 x2 x4 x5 x6 μ
    ) else (
      Option.bind (f_M_isFigure μ x2) (fun v1 =>
        if v1 = 0 then (
          f_M_reads_b153 N k47 x1 x2 x4 x5 x6 μ
        ) else (
          if ib x2 40 then
            nm ((((10 : Int32) * x6) + (gI μ 39 (ix x2))) - 48) (fun v3 =>
              nm (x2 + 1) (fun v4 =>
                (f_M_reads_l114 N k47 n) x1 v4 x4 x5 v3 μ
              )
            )
          else none
        )
      )
    )
def f_M_reads_b72 (N : Nat) (k47 : Int32 → Int32 → Int32 → Mem → Option (Mem)) (x1 : Int32) (x2 : Int32) (xs0 : Int32) (μ : Mem) : Option (Mem) :=
  if xs0 = (-1 : Int32) then (
    f_M_reads_b90 N x2 μ
  ) else (
    if ¬ ((x1 >>> (xs0 &&& 31)) &&& 1) = (1 : Int32) then (
      nm (x1 ||| ((1 : Int32) <<< (xs0 &&& 31))) (fun v1 =>
        nm (x2 + 1) (fun v2 =>
          f_M_reads_l114 N k47 N v1 v2 xs0 v2 0 μ
        )
      )
    ) else (
      f_M_reads_b90 N x2 μ
    )
  )
def f_M_reads_l47 (N : Nat) : Nat → Int32 → Int32 → Int32 → Mem → Option (Mem)
  | 0, _, _, _, _ => none
  | n + 1, x1, x2, x3, μ =>
    if x3 = 0 then (
      some μ
    ) else (
      if (gI μ 0 55) ≤ x2 then (
        f_M_reads_b72 N (f_M_reads_l47 N n) x1 x2 (-1) μ
      ) else (
        if ib x2 40 then
          Option.bind (f_M_ruleOf (gI μ 39 (ix x2))) (fun v2 =>
            f_M_reads_b72 N (f_M_reads_l47 N n) x1 x2 v2 μ
          )
        else none
      )
    )
def f_M_reads (N : Nat) (μ : Mem) : Option (Mem) :=
  if ib (0 : Int32) 5 then
    nm (sI μ 40 (ix (0 : Int32)) 1) (fun μ2 =>
      if ib (1 : Int32) 5 then
        nm (sI μ2 40 (ix (1 : Int32)) 5) (fun μ4 =>
          if ib (2 : Int32) 5 then
            nm (sI μ4 40 (ix (2 : Int32)) (-1)) (fun μ6 =>
              if ib (3 : Int32) 5 then
                nm (sI μ6 40 (ix (3 : Int32)) 30) (fun μ8 =>
                  if ib (4 : Int32) 5 then
                    nm (sI μ8 40 (ix (4 : Int32)) 0) (fun μ10 =>
                      nm (sI μ10 0 56 (-1)) (fun μ11 =>
                        f_M_reads_l47 N N 0 0 1 μ11
                      )
                    )
                  else none
                )
              else none
            )
          else none
        )
      else none
    )
  else none
/-- TopYardModel.fault()I -/
def f_M_fault (N : Nat) (μ : Mem) : Option (Int32 × Mem) :=
  Option.bind (f_M_reads N μ) (fun μ1 =>
    some ((gI μ1 0 56), μ1)
  )
/-- TopYardModel.topsOf(I)I -/
def f_M_topsOf_b28 (N : Nat) (μ : Mem) (k4 : Int32 → Int32 → Int32 → Option (Int32)) (x1 : Int32) (x3 : Int32) (xs0 : Int32) (xs1 : Int32) : Option (Int32) :=
  nm (xs1 + xs0) (fun v1 =>
    nm (x3 + 1) (fun v2 =>
      k4 x1 v1 v2
    )
  )
def f_M_topsOf_l4 (N : Nat) (μ : Mem) : Nat → Int32 → Int32 → Int32 → Option (Int32)
  | 0, _, _, _ => none
  | n + 1, x1, x2, x3 =>
    if (gI μ 0 1) ≤ x3 then (
      some x2
    ) else (
      if ib x3 40 then
        if ¬ (gI μ 6 (ix x3)) = x1 then (
          f_M_topsOf_b28 N μ (f_M_topsOf_l4 N μ n) x1 x3 0 x2
        ) else (
          f_M_topsOf_b28 N μ (f_M_topsOf_l4 N μ n) x1 x3 1 x2
        )
      else none
    )
def f_M_topsOf (N : Nat) (μ : Mem) (x1 : Int32) : Option (Int32) :=
  f_M_topsOf_l4 N μ N x1 0 0
/-- TopYardModel.topOf(II)I -/
def f_M_topOf_b37 (N : Nat) (μ : Mem) (k5 : Int32 → Int32 → Int32 → Option (Int32)) (x1 : Int32) (x4 : Int32) (xs0 : Int32) (xs1 : Int32) : Option (Int32) :=
  nm (xs1 - xs0) (fun v1 =>
    nm (x4 + 1) (fun v2 =>
      k5 x1 v1 v2
    )
  )
def f_M_topOf_b20 (N : Nat) (μ : Mem) (k5 : Int32 → Int32 → Int32 → Option (Int32)) (x1 : Int32) (x3 : Int32) (x4 : Int32) : Option (Int32) :=
  if ib x4 40 then
    if ¬ (gI μ 6 (ix x4)) = x1 then (
      f_M_topOf_b37 N μ k5 x1 x4 0 x3
    ) else (
      f_M_topOf_b37 N μ k5 x1 x4 1 x3
    )
  else none
def f_M_topOf_l5 (N : Nat) (μ : Mem) : Nat → Int32 → Int32 → Int32 → Option (Int32)
  | 0, _, _, _ => none
  | n + 1, x1, x3, x4 =>
    if ib x4 40 then
      if ¬ (gI μ 6 (ix x4)) = x1 then (
        f_M_topOf_b20 N μ (f_M_topOf_l5 N μ n) x1 x3 x4
      ) else (
        if x3 ≤ 0 then (
          some x4
        ) else (
          f_M_topOf_b20 N μ (f_M_topOf_l5 N μ n) x1 x3 x4
        )
      )
    else none
def f_M_topOf (N : Nat) (μ : Mem) (x1 : Int32) (x2 : Int32) : Option (Int32) :=
  f_M_topOf_l5 N μ N x1 x2 0
/-- TopYardModel.play(II)I -/
def f_M_play_b214 (N : Nat) (k61 : Int32 → Int32 → Int32 → Int32 → Int32 → Mem → Option (Int32 × Mem)) (x1 : Int32) (x2 : Int32) (x3 : Int32) (x4 : Int32) (x5 : Int32) (xs0 : Int32) (xs1 : Int32) (xs2 : Int32) (μ : Mem) : Option (Int32 × Mem) :=
  if ib xs2 8 then
    nm (sI μ 8 (ix xs2) (xs1 - xs0)) (fun μ2 =>
      k61 x1 x2 x3 x4 x5 μ2
    )
  else none
def f_M_play_b191 (N : Nat) (k61 : Int32 → Int32 → Int32 → Int32 → Int32 → Mem → Option (Int32 × Mem)) (x1 : Int32) (x2 : Int32) (x3 : Int32) (x4 : Int32) (x5 : Int32) (xs0 : Int32) (xs1 : Int32) (xs2 : Int32) (μ : Mem) : Option (Int32 × Mem) :=
  if ib xs2 8 then
    nm (sI μ 8 (ix xs2) (xs1 - xs0)) (fun μ2 =>
      if ib x2 8 then
        if ib x2 8 then
          if (gI μ2 8 (ix x2)) ≤ 0 then (
            f_M_play_b214 N k61 x1 x2 x3 x4 x5 0 (gI μ2 8 (ix x2)) x2 μ2
          ) else (
            f_M_play_b214 N k61 x1 x2 x3 x4 x5 1 (gI μ2 8 (ix x2)) x2 μ2
          )
        else none
      else none
    )
  else none
def f_M_play_b164 (N : Nat) (k61 : Int32 → Int32 → Int32 → Int32 → Int32 → Mem → Option (Int32 × Mem)) (x1 : Int32) (x2 : Int32) (x3 : Int32) (x5 : Int32) (xs0 : Int32) (xs1 : Int32) (μ : Mem) : Option (Int32 × Mem) :=
  nm (xs1 + xs0) (fun v1 =>
    nm (x5 + 1) (fun v2 =>
      if ib x1 8 then
        if ib x1 8 then
          if (gI μ 8 (ix x1)) ≤ 0 then (
            f_M_play_b191 N k61 x1 x2 x3 v1 v2 0 (gI μ 8 (ix x1)) x1 μ
          ) else (
            f_M_play_b191 N k61 x1 x2 x3 v1 v2 1 (gI μ 8 (ix x1)) x1 μ
          )
        else none
      else none
    )
  )
def f_M_play_b149 (N : Nat) (k61 : Int32 → Int32 → Int32 → Int32 → Int32 → Mem → Option (Int32 × Mem)) (x1 : Int32) (x2 : Int32) (x4 : Int32) (x5 : Int32) (x6 : Int32) (xs0 : Int32) (xs1 : Int32) (μ : Mem) : Option (Int32 × Mem) :=
  nm (xs1 + xs0) (fun v1 =>
    if ¬ x6 = (-1 : Int32) then (
      f_M_play_b164 N k61 x1 x2 v1 x5 0 x4 μ
    ) else (
      f_M_play_b164 N k61 x1 x2 v1 x5 1 x4 μ
    )
  )
def f_M_play_b310 (N : Nat) (x1 : Int32) (x2 : Int32) (x3 : Int32) (x4 : Int32) (x5 : Int32) (x6 : Int32) (x7 : Int32) (μ : Mem) : Option (Int32 × Mem) :=
  if ib (0 : Int32) 4 then
    nm (sI μ 41 (ix (0 : Int32)) x5) (fun μ2 =>
      if ib (1 : Int32) 4 then
        nm (sI μ2 41 (ix (1 : Int32)) x3) (fun μ4 =>
          if ib (2 : Int32) 4 then
            nm (sI μ4 41 (ix (2 : Int32)) x4) (fun μ6 =>
              if ib (3 : Int32) 4 then
                nm (sI μ6 41 (ix (3 : Int32)) x7) (fun μ8 =>
                  if ib (((8 : Int32) * x1) + x2) 64 then
                    if ib (((8 : Int32) * x1) + x2) 64 then
                      nm (sI μ8 42 (ix (((8 : Int32) * x1) + x2)) ((gI μ8 42 (ix (((8 : Int32) * x1) + x2))) + 1)) (fun μ11 =>
                        if ib (((8 : Int32) * x2) + x1) 64 then
                          if ib (((8 : Int32) * x2) + x1) 64 then
                            nm (sI μ11 42 (ix (((8 : Int32) * x2) + x1)) ((gI μ11 42 (ix (((8 : Int32) * x2) + x1))) + 1)) (fun μ14 =>
                              some (x6, μ14)
                            )
                          else none
                        else none
                      )
                    else none
                  else none
                )
              else none
            )
          else none
        )
      else none
    )
  else none
def f_M_play_l272 (N : Nat) : Nat → Int32 → Int32 → Int32 → Int32 → Int32 → Int32 → Int32 → Int32 → Int32 → Mem → Option (Int32 × Mem)
  | 0, _, _, _, _, _, _, _, _, _, _ => none
  | n + 1, x1, x2, x3, x4, x5, x6, x7, x8, x9, μ =>
    if ib (4 : Int32) 5 then
      if (gI μ 40 (ix (4 : Int32))) ≤ x7 then (
        f_M_play_b310 N x1 x2 x3 x4 x5 x6 x7 μ
      ) else (
        if x9 ≤ x7 then (
          f_M_play_b310 N x1 x2 x3 x4 x5 x6 x7 μ
        ) else (
          Option.bind (f_M_topOf N μ x8 0) (fun v2 =>
            if ib v2 40 then
              nm (sI μ 6 (ix v2) x6) (fun μ4 =>
                nm (x7 + 1) (fun v5 =>
                  (f_M_play_l272 N n) x1 x2 x3 x4 x5 x6 v5 x8 x9 μ4
                )
              )
            else none
          )
        )
      )
    else none
def f_M_play_b262 (N : Nat) (x1 : Int32) (x2 : Int32) (x3 : Int32) (x4 : Int32) (x5 : Int32) (x6 : Int32) (x7 : Int32) (xs0 : Int32) (μ : Mem) : Option (Int32 × Mem) :=
  Option.bind (f_M_topsOf N μ xs0) (fun v1 =>
    f_M_play_l272 N N x1 x2 x3 x4 x5 x6 x7 xs0 v1 μ
  )
def f_M_play_b240 (N : Nat) (x1 : Int32) (x2 : Int32) (x3 : Int32) (x4 : Int32) (x5 : Int32) (xs0 : Int32) (μ : Mem) : Option (Int32 × Mem) :=
  if xs0 = (-1 : Int32) then (
    f_M_play_b310 N x1 x2 x3 x4 x5 xs0 0 μ
  ) else (
    if ¬ xs0 = x1 then (
      f_M_play_b262 N x1 x2 x3 x4 x5 xs0 0 x1 μ
    ) else (
      f_M_play_b262 N x1 x2 x3 x4 x5 xs0 0 x2 μ
    )
  )
def f_M_play_b219 (N : Nat) (x1 : Int32) (x2 : Int32) (x3 : Int32) (x4 : Int32) (x5 : Int32) (μ : Mem) : Option (Int32 × Mem) :=
  if x3 ≤ x4 then (
    if x4 ≤ x3 then (
      f_M_play_b240 N x1 x2 x3 x4 x5 (-1) μ
    ) else (
      f_M_play_b240 N x1 x2 x3 x4 x5 x2 μ
    )
  ) else (
    f_M_play_b240 N x1 x2 x3 x4 x5 x1 μ
  )
def f_M_play_l61 (N : Nat) : Nat → Int32 → Int32 → Int32 → Int32 → Int32 → Mem → Option (Int32 × Mem)
  | 0, _, _, _, _, _, _ => none
  | n + 1, x1, x2, x3, x4, x5, μ =>
    if ib (1 : Int32) 5 then
      if (gI μ 40 (ix (1 : Int32))) ≤ x5 then (
        f_M_play_b219 N x1 x2 x3 x4 x5 μ
      ) else (
        if ib (0 : Int32) 5 then
          if (gI μ 40 (ix (0 : Int32))) ≤ x3 then (
            f_M_play_b219 N x1 x2 x3 x4 x5 μ
          ) else (
            if ib (0 : Int32) 5 then
              if (gI μ 40 (ix (0 : Int32))) ≤ x4 then (
                f_M_play_b219 N x1 x2 x3 x4 x5 μ
              ) else (
                Option.bind (f_M_topsOf N μ x1) (fun v4 =>
                  if v4 = 0 then none else
                  Option.bind (f_M_topOf N μ x1 (x5 - x5 / v4 * v4)) (fun v5 =>
                    Option.bind (f_M_topsOf N μ x2) (fun v6 =>
                      if v6 = 0 then none else
                      Option.bind (f_M_topOf N μ x2 (x5 - x5 / v6 * v6)) (fun v7 =>
                        if ib (3 : Int32) 5 then
                          if ib (2 : Int32) 5 then
                            bM2 (f_M_comesTo N μ v5 v7 (gI μ 40 (ix (3 : Int32))) (gI μ 40 (ix (2 : Int32)))) (fun v10 μ11 =>
                              if ¬ v10 = (1 : Int32) then (
                                f_M_play_b149 N (f_M_play_l61 N n) x1 x2 x4 x5 v10 0 x3 μ11
                              ) else (
                                f_M_play_b149 N (f_M_play_l61 N n) x1 x2 x4 x5 v10 1 x3 μ11
                              )
                            )
                          else none
                        else none
                      )
                    )
                  )
                )
              )
            else none
          )
        else none
      )
    else none
def f_M_play (N : Nat) (μ : Mem) (x1 : Int32) (x2 : Int32) : Option (Int32 × Mem) :=
  Option.bind (f_M_isOwner x1) (fun v1 =>
    if v1 = 0 then (
      some ((-2), μ)
    ) else (
      Option.bind (f_M_isOwner x2) (fun v2 =>
        if v2 = 0 then (
          some ((-2), μ)
        ) else (
          if ¬ x1 = x2 then (
            Option.bind (f_M_reads N μ) (fun μ3 =>
              if ¬ (gI μ3 0 56) = (-1 : Int32) then (
                some ((-3), μ3)
              ) else (
                Option.bind (f_M_topsOf N μ3 x1) (fun v4 =>
                  if v4 = 0 then (
                    some ((-3), μ3)
                  ) else (
                    Option.bind (f_M_topsOf N μ3 x2) (fun v5 =>
                      if ¬ v5 = 0 then (
                        f_M_play_l61 N N x1 x2 0 0 0 μ3
                      ) else (
                        some ((-3), μ3)
                      )
                    )
                  )
                )
              )
            )
          ) else (
            some ((-2), μ)
          )
        )
      )
    )
  )
/-- TopYardModel.played(I)I -/
def f_M_played (μ : Mem) (x1 : Int32) : Option (Int32) :=
  Option.bind (f_M_in (x1.toInt64) 0 3) (fun v1 =>
    if v1 = 0 then (
      some (-2)
    ) else (
      if ib x1 4 then
        some (gI μ 41 (ix x1))
      else none
    )
  )
/-- TopYardModel.met(II)I -/
def f_M_met1 (μ : Mem) (x1 : Int32) (x2 : Int32) : Option (Int32) :=
  Option.bind (f_M_isOwner x1) (fun v1 =>
    if v1 = 0 then (
      some (-2)
    ) else (
      Option.bind (f_M_isOwner x2) (fun v2 =>
        if v2 = 0 then (
          some (-2)
        ) else (
          if x1 = x2 then (
            some (-2)
          ) else (
            if ib (((8 : Int32) * x1) + x2) 64 then
              some (gI μ 42 (ix (((8 : Int32) * x1) + x2)))
            else none
          )
        )
      )
    )
  )
/-- TopYardModel.first(I)I -/
def f_M_first_l2 (N : Nat) : Nat → Int32 → Int32 → Option (Int32)
  | 0, _, _ => none
  | n + 1, x0, x1 =>
    if ¬ ((x0 >>> (x1 &&& 31)) &&& 1) = 0 then (
      some x1
    ) else (
      nm (x1 + 1) (fun v1 =>
        (f_M_first_l2 N n) x0 v1
      )
    )
def f_M_first (N : Nat) (x0 : Int32) : Option (Int32) :=
  f_M_first_l2 N N x0 0
/-- TopYardModel.costs(II)I -/
def f_M_costs (N : Nat) (μ : Mem) (x1 : Int32) (x2 : Int32) : Option (Int32) :=
  Option.bind (f_M_first N x1) (fun v1 =>
    if ib (((8 : Int32) * v1) + x2) 64 then
      nm ((gI μ 42 (ix (((8 : Int32) * v1) + x2))) + 1) (fun v3 =>
        if ib ((x1 &&& (((1 : Int32) <<< (v1 &&& 31)) ^^^ (-1))) &&& (((1 : Int32) <<< (x2 &&& 31)) ^^^ (-1))) 256 then
          some ((v3 * v3) + (gI μ 43 (ix ((x1 &&& (((1 : Int32) <<< (v1 &&& 31)) ^^^ (-1))) &&& (((1 : Int32) <<< (x2 &&& 31)) ^^^ (-1))))))
        else none
      )
    else none
  )
/-- TopYardModel.findPairs()V -/
def f_M_findPairs_b96 (N : Nat) (k9 : Int32 → Mem → Option (Mem)) (k26 : Int32 → Int32 → Mem → Option (Mem)) (x1 : Int32) (x2 : Int32) (μ : Mem) : Option (Mem) :=
  nm (x2 + 1) (fun v1 =>
    k26 x1 v1 μ
  )
def f_M_findPairs_b84 (N : Nat) (k9 : Int32 → Mem → Option (Mem)) (k26 : Int32 → Int32 → Mem → Option (Mem)) (x1 : Int32) (x2 : Int32) (μ : Mem) : Option (Mem) :=
  Option.bind (f_M_costs N μ x1 x2) (fun v1 =>
    if ib x1 256 then
      nm (sI μ 43 (ix x1) v1) (fun μ3 =>
        f_M_findPairs_b96 N k9 k26 x1 x2 μ3
      )
    else none
  )
def f_M_findPairs_b102 (N : Nat) (k9 : Int32 → Mem → Option (Mem)) (x1 : Int32) (μ : Mem) : Option (Mem) :=
  nm (x1 + 1) (fun v1 =>
    k9 v1 μ
  )
def f_M_findPairs_l26 (N : Nat) (k9 : Int32 → Mem → Option (Mem)) : Nat → Int32 → Int32 → Mem → Option (Mem)
  | 0, _, _, _ => none
  | n + 1, x1, x2, μ =>
    if (8 : Int32) ≤ x2 then (
      f_M_findPairs_b102 N k9 x1 μ
    ) else (
      Option.bind (f_M_ones N x1) (fun v1 =>
        if ¬ (v1 - v1 / 2 * 2) = 0 then (
          f_M_findPairs_b102 N k9 x1 μ
        ) else (
          if ¬ ((x1 >>> (x2 &&& 31)) &&& 1) = (1 : Int32) then (
            f_M_findPairs_b96 N k9 (f_M_findPairs_l26 N k9 n) x1 x2 μ
          ) else (
            Option.bind (f_M_first N x1) (fun v2 =>
              if x2 = v2 then (
                f_M_findPairs_b96 N k9 (f_M_findPairs_l26 N k9 n) x1 x2 μ
              ) else (
                if ib x1 256 then
                  if (gI μ 43 (ix x1)) = (-2147483648 : Int32) then (
                    f_M_findPairs_b84 N k9 (f_M_findPairs_l26 N k9 n) x1 x2 μ
                  ) else (
                    Option.bind (f_M_costs N μ x1 x2) (fun v4 =>
                      if ib x1 256 then
                        if (gI μ 43 (ix x1)) ≤ v4 then (
                          f_M_findPairs_b96 N k9 (f_M_findPairs_l26 N k9 n) x1 x2 μ
                        ) else (
                          f_M_findPairs_b84 N k9 (f_M_findPairs_l26 N k9 n) x1 x2 μ
                        )
                      else none
                    )
                  )
                else none
              )
            )
          )
        )
      )
    )
def f_M_findPairs_l9 (N : Nat) : Nat → Int32 → Mem → Option (Mem)
  | 0, _, _ => none
  | n + 1, x1, μ =>
    if (256 : Int32) ≤ x1 then (
      some μ
    ) else (
      if ib x1 256 then
        nm (sI μ 43 (ix x1) (-2147483648)) (fun μ2 =>
          f_M_findPairs_l26 N (f_M_findPairs_l9 N n) N x1 0 μ2
        )
      else none
    )
def f_M_findPairs (N : Nat) (μ : Mem) : Option (Mem) :=
  if ib (0 : Int32) 256 then
    nm (sI μ 43 (ix (0 : Int32)) 0) (fun μ2 =>
      f_M_findPairs_l9 N N 1 μ2
    )
  else none
/-- TopYardModel.pairing(II)I -/
def f_M_pairing_b82 (N : Nat) (k45 : Int32 → Int32 → Mem → Option (Int32 × Mem)) (k57 : Int32 → Int32 → Int32 → Int32 → Mem → Option (Int32 × Mem)) (x2 : Int32) (x3 : Int32) (x4 : Int32) (x5 : Int32) (μ : Mem) : Option (Int32 × Mem) :=
  nm (x5 + 1) (fun v1 =>
    k57 x2 x3 x4 v1 μ
  )
def f_M_pairing_b100 (N : Nat) (x2 : Int32) (x4 : Int32) (x5 : Int32) (μ : Mem) : Option (Int32 × Mem) :=
  if ¬ x4 = x2 then (
    some (x4, μ)
  ) else (
    some (x5, μ)
  )
def f_M_pairing_l57 (N : Nat) (k45 : Int32 → Int32 → Mem → Option (Int32 × Mem)) : Nat → Int32 → Int32 → Int32 → Int32 → Mem → Option (Int32 × Mem)
  | 0, _, _, _, _, _ => none
  | n + 1, x2, x3, x4, x5, μ =>
    if ((x3 >>> (x5 &&& 31)) &&& 1) = 0 then (
      f_M_pairing_b82 N k45 (f_M_pairing_l57 N k45 n) x2 x3 x4 x5 μ
    ) else (
      Option.bind (f_M_costs N μ x3 x5) (fun v1 =>
        if ib x3 256 then
          if v1 = (gI μ 43 (ix x3)) then (
            if x4 = x2 then (
              f_M_pairing_b100 N x2 x4 x5 μ
            ) else (
              if ¬ x5 = x2 then (
                nm ((x3 &&& (((1 : Int32) <<< (x4 &&& 31)) ^^^ (-1))) &&& (((1 : Int32) <<< (x5 &&& 31)) ^^^ (-1))) (fun v3 =>
                  k45 x2 v3 μ
                )
              ) else (
                f_M_pairing_b100 N x2 x4 x5 μ
              )
            )
          ) else (
            f_M_pairing_b82 N k45 (f_M_pairing_l57 N k45 n) x2 x3 x4 x5 μ
          )
        else none
      )
    )
def f_M_pairing_l45 (N : Nat) : Nat → Int32 → Int32 → Mem → Option (Int32 × Mem)
  | 0, _, _, _ => none
  | n + 1, x2, x3, μ =>
    Option.bind (f_M_first N x3) (fun v1 =>
      nm (v1 + 1) (fun v2 =>
        f_M_pairing_l57 N (f_M_pairing_l45 N n) N x2 x3 v1 v2 μ
      )
    )
def f_M_pairing (N : Nat) (μ : Mem) (x1 : Int32) (x2 : Int32) : Option (Int32 × Mem) :=
  Option.bind (f_M_in (x1.toInt64) 1 255) (fun v1 =>
    if v1 = 0 then (
      some ((-2), μ)
    ) else (
      Option.bind (f_M_ones N x1) (fun v2 =>
        if ¬ (v2 - v2 / 2 * 2) = 0 then (
          some ((-2), μ)
        ) else (
          Option.bind (f_M_isOwner x2) (fun v3 =>
            if v3 = 0 then (
              some ((-2), μ)
            ) else (
              if ¬ ((x1 >>> (x2 &&& 31)) &&& 1) = 0 then (
                Option.bind (f_M_findPairs N μ) (fun μ4 =>
                  f_M_pairing_l45 N N x2 x1 μ4
                )
              ) else (
                some ((-2), μ)
              )
            )
          )
        )
      )
    )
  )
/-- TopYardModel.bag(III)I -/
def f_M_bag_b79 (N : Nat) (k40 : Int32 → Int32 → Int32 → Int32 → Int32 → Mem → Option (Int32 × Mem)) (x1 : Int32) (x2 : Int32) (x3 : Int32) (x4 : Int32) (x5 : Int32) (μ : Mem) : Option (Int32 × Mem) :=
  nm (x5 + 1) (fun v1 =>
    k40 x1 x2 x3 x4 v1 μ
  )
def f_M_bag_b187 (N : Nat) (k97 : Int32 → Int32 → Int32 → Int32 → Int32 → Int32 → Int32 → Mem → Option (Int32 × Mem)) (k115 : Int32 → Int32 → Int32 → Int32 → Int32 → Int32 → Int32 → Int32 → Int32 → Int32 → Mem → Option (Int32 × Mem)) (x2 : Int32) (x3 : Int32) (x4 : Int32) (x5 : Int32) (x6 : Int32) (x7 : Int32) (x8 : Int32) (x9 : Int32) (x10 : Int32) (x11 : Int32) (μ : Mem) : Option (Int32 × Mem) :=
  nm (x11 + 1) (fun v1 =>
    k115 x2 x3 x4 x5 x6 x7 x8 x9 x10 v1 μ
  )
def f_M_bag_b232 (N : Nat) (k97 : Int32 → Int32 → Int32 → Int32 → Int32 → Int32 → Int32 → Mem → Option (Int32 × Mem)) (x2 : Int32) (x3 : Int32) (x4 : Int32) (x5 : Int32) (x6 : Int32) (x7 : Int32) (x8 : Int32) (μ : Mem) : Option (Int32 × Mem) :=
  nm (x8 + 1) (fun v1 =>
    k97 x2 x3 x4 x5 x6 x7 v1 μ
  )
def f_M_bag_b220 (N : Nat) (k97 : Int32 → Int32 → Int32 → Int32 → Int32 → Int32 → Int32 → Mem → Option (Int32 × Mem)) (x2 : Int32) (x3 : Int32) (x4 : Int32) (x8 : Int32) (x9 : Int32) (x10 : Int32) (μ : Mem) : Option (Int32 × Mem) :=
  f_M_bag_b232 N k97 x2 x3 x4 x8 x9 x10 x8 μ
def f_M_bag_l115 (N : Nat) (k97 : Int32 → Int32 → Int32 → Int32 → Int32 → Int32 → Int32 → Mem → Option (Int32 × Mem)) : Nat → Int32 → Int32 → Int32 → Int32 → Int32 → Int32 → Int32 → Int32 → Int32 → Int32 → Mem → Option (Int32 × Mem)
  | 0, _, _, _, _, _, _, _, _, _, _, _ => none
  | n + 1, x2, x3, x4, x5, x6, x7, x8, x9, x10, x11, μ =>
    if x4 ≤ x11 then (
      if x2 < x10 then (
        f_M_bag_b232 N k97 x2 x3 x4 x5 x6 x7 x8 μ
      ) else (
        if x6 < x9 then (
          f_M_bag_b220 N k97 x2 x3 x4 x8 x9 x10 μ
        ) else (
          if ¬ x9 = x6 then (
            f_M_bag_b232 N k97 x2 x3 x4 x5 x6 x7 x8 μ
          ) else (
            if x7 ≤ x10 then (
              f_M_bag_b232 N k97 x2 x3 x4 x5 x6 x7 x8 μ
            ) else (
              f_M_bag_b220 N k97 x2 x3 x4 x8 x9 x10 μ
            )
          )
        )
      )
    ) else (
      if ¬ ((x8 >>> (x11 &&& 31)) &&& 1) = (1 : Int32) then (
        f_M_bag_b187 N k97 (f_M_bag_l115 N k97 n) x2 x3 x4 x5 x6 x7 x8 x9 x10 x11 μ
      ) else (
        if ib x11 16 then
          nm (gI μ 44 (ix x11)) (fun v2 =>
            if ib v2 40 then
              if ib v2 40 then
                if ib v2 40 then
                  nm (x9 + (((((3 : Int32) * (gI μ 3 (ix v2))) + 10) - (gI μ 4 (ix v2))) - (gI μ 7 (ix v2)))) (fun v6 =>
                    if ib v2 40 then
                      nm (x10 + (gI μ 2 (ix v2))) (fun v8 =>
                        f_M_bag_b187 N k97 (f_M_bag_l115 N k97 n) x2 x3 x4 x5 x6 x7 x8 v6 v8 x11 μ
                      )
                    else none
                  )
                else none
              else none
            else none
          )
        else none
      )
    )
def f_M_bag_l97 (N : Nat) : Nat → Int32 → Int32 → Int32 → Int32 → Int32 → Int32 → Int32 → Mem → Option (Int32 × Mem)
  | 0, _, _, _, _, _, _, _, _ => none
  | n + 1, x2, x3, x4, x5, x6, x7, x8, μ =>
    if ((1 : Int32) <<< (x4 &&& 31)) ≤ x8 then (
      if ¬ x3 = 0 then (
        if ¬ x3 = (1 : Int32) then (
          some (x7, μ)
        ) else (
          some (x6, μ)
        )
      ) else (
        some (x5, μ)
      )
    ) else (
      f_M_bag_l115 N (f_M_bag_l97 N n) N x2 x3 x4 x5 x6 x7 x8 0 0 0 μ
    )
def f_M_bag_b85 (N : Nat) (x2 : Int32) (x3 : Int32) (x4 : Int32) (μ : Mem) : Option (Int32 × Mem) :=
  f_M_bag_l97 N N x2 x3 x4 0 0 0 1 μ
def f_M_bag_l40 (N : Nat) : Nat → Int32 → Int32 → Int32 → Int32 → Int32 → Mem → Option (Int32 × Mem)
  | 0, _, _, _, _, _, _ => none
  | n + 1, x1, x2, x3, x4, x5, μ =>
    if (gI μ 0 1) ≤ x5 then (
      f_M_bag_b85 N x2 x3 x4 μ
    ) else (
      if (16 : Int32) ≤ x4 then (
        f_M_bag_b85 N x2 x3 x4 μ
      ) else (
        if ib x5 40 then
          if ¬ (gI μ 6 (ix x5)) = x1 then (
            f_M_bag_b79 N (f_M_bag_l40 N n) x1 x2 x3 x4 x5 μ
          ) else (
            if ib x4 16 then
              nm (sI μ 44 (ix x4) x5) (fun μ3 =>
                nm (x4 + 1) (fun v4 =>
                  f_M_bag_b79 N (f_M_bag_l40 N n) x1 x2 x3 v4 x5 μ3
                )
              )
            else none
          )
        else none
      )
    )
def f_M_bag (N : Nat) (μ : Mem) (x1 : Int32) (x2 : Int32) (x3 : Int32) : Option (Int32 × Mem) :=
  Option.bind (f_M_isOwner x1) (fun v1 =>
    if v1 = 0 then (
      some ((-2), μ)
    ) else (
      Option.bind (f_M_in (x2.toInt64) 1 500) (fun v2 =>
        if v2 = 0 then (
          some ((-2), μ)
        ) else (
          Option.bind (f_M_in (x3.toInt64) 0 2) (fun v3 =>
            if ¬ v3 = 0 then (
              f_M_bag_l40 N N x1 x2 x3 0 0 μ
            ) else (
              some ((-2), μ)
            )
          )
        )
      )
    )
  )
/-- TopYardModel.sheet(III)I -/
def f_M_sheet_l55 (N : Nat) : Nat → Int32 → Int32 → Int32 → Mem → Option (Int32 × Mem)
  | 0, _, _, _, _ => none
  | n + 1, x1, x3, x4, μ =>
    if x3 ≤ x4 then (
      some (x3, μ)
    ) else (
      if ib (((120 : Int32) * x1) + x4) 480 then
        nm (sI μ 47 (ix (((120 : Int32) * x1) + x4)) 0) (fun μ2 =>
          nm (x4 + 1) (fun v3 =>
            (f_M_sheet_l55 N n) x1 x3 v3 μ2
          )
        )
      else none
    )
def f_M_sheet (N : Nat) (μ : Mem) (x1 : Int32) (x2 : Int32) (x3 : Int32) : Option (Int32 × Mem) :=
  Option.bind (f_M_isSheet x1) (fun v1 =>
    if v1 = 0 then (
      some ((-2), μ)
    ) else (
      Option.bind (f_M_in (x2.toInt64) 0 2) (fun v2 =>
        if v2 = 0 then (
          some ((-2), μ)
        ) else (
          if x3 ≤ (120 : Int32) then (
            if 0 ≤ x3 then (
              if ib x1 4 then
                nm (sI μ 45 (ix x1) x2) (fun μ4 =>
                  if ib x1 4 then
                    nm (sI μ4 46 (ix x1) x3) (fun μ6 =>
                      f_M_sheet_l55 N N x1 x3 0 μ6
                    )
                  else none
                )
              else none
            ) else (
              bM2 (f_M_met2 μ 5) (fun v7 μ8 =>
                some (v7, μ8)
              )
            )
          ) else (
            some ((-2), μ)
          )
        )
      )
    )
  )
/-- TopYardModel.lose(I)I -/
def f_M_lose (μ : Mem) (x1 : Int32) : Option (Int32 × Mem) :=
  Option.bind (f_M_isSheet x1) (fun v1 =>
    if ¬ v1 = 0 then (
      if ib x1 4 then
        if 0 ≤ (gI μ 45 (ix x1)) then (
          if ib x1 4 then
            nm (sI μ 45 (ix x1) (-1)) (fun μ4 =>
              if ib x1 4 then
                some ((gI μ4 46 (ix x1)), μ4)
              else none
            )
          else none
        ) else (
          bM2 (f_M_met2 μ 1) (fun v6 μ7 =>
            some (v6, μ7)
          )
        )
      else none
    ) else (
      some ((-2), μ)
    )
  )
/-- TopYardModel.lacks(III)I -/
def f_M_lacks (μ : Mem) (x1 : Int32) (x2 : Int32) (x3 : Int32) : Option (Int32 × Mem) :=
  if ib x1 4 then
    if 0 ≤ (gI μ 45 (ix x1)) then (
      if ib x1 4 then
        if (gI μ 45 (ix x1)) = x2 then (
          if ib x1 4 then
            Option.bind (f_M_in (x3.toInt64) 0 (((gI μ 46 (ix x1)) - 1).toInt64)) (fun v4 =>
              if v4 = 0 then (
                bM2 (f_M_met2 μ 2) (fun v5 μ6 =>
                  some (v5, μ6)
                )
              ) else (
                some (0, μ)
              )
            )
          else none
        ) else (
          bM2 (f_M_met2 μ 3) (fun v9 μ10 =>
            some (v9, μ10)
          )
        )
      else none
    ) else (
      bM2 (f_M_met2 μ 1) (fun v12 μ13 =>
        some (v12, μ13)
      )
    )
  else none
/-- TopYardModel.cut(II)I -/
def f_M_cut (x0 : Int32) (x1 : Int32) : Option (Int32) :=
  if ¬ x0 = 0 then (
    if ¬ x0 = (1 : Int32) then (
      some x1
    ) else (
      some (x1.toInt16.toInt32)
    )
  ) else (
    some (x1.toInt8.toInt32)
  )
/-- TopYardModel.put(IIII)I -/
def f_M_put (μ : Mem) (x1 : Int32) (x2 : Int32) (x3 : Int32) (x4 : Int32) : Option (Int32 × Mem) :=
  Option.bind (f_M_isSheet x1) (fun v1 =>
    if v1 = 0 then (
      some ((-2), μ)
    ) else (
      Option.bind (f_M_in (x2.toInt64) 0 2) (fun v2 =>
        if ¬ v2 = 0 then (
          bM2 (f_M_lacks μ x1 x2 x3) (fun v3 μ4 =>
            if v3 = 0 then (
              Option.bind (f_M_cut x2 x4) (fun v5 =>
                if ib (((120 : Int32) * x1) + x3) 480 then
                  nm (sI μ4 47 (ix (((120 : Int32) * x1) + x3)) v5) (fun μ7 =>
                    some (1, μ7)
                  )
                else none
              )
            ) else (
              some (v3, μ4)
            )
          )
        ) else (
          some ((-2), μ)
        )
      )
    )
  )
/-- TopYardModel.get(III)I -/
def f_M_get (μ : Mem) (x1 : Int32) (x2 : Int32) (x3 : Int32) : Option (Int32 × Mem) :=
  Option.bind (f_M_isSheet x1) (fun v1 =>
    if v1 = 0 then (
      some ((-2147483648), μ)
    ) else (
      Option.bind (f_M_in (x2.toInt64) 0 2) (fun v2 =>
        if v2 = 0 then (
          some ((-2147483648), μ)
        ) else (
          bM2 (f_M_lacks μ x1 x2 x3) (fun v3 μ4 =>
            if v3 = 0 then (
              if ib (((120 : Int32) * x1) + x3) 480 then
                some ((gI μ4 47 (ix (((120 : Int32) * x1) + x3))), μ4)
              else none
            ) else (
              some ((-2147483648), μ4)
            )
          )
        )
      )
    )
  )
/-- TopYardModel.copy(IIIII)I -/
def f_M_copy_b35 (N : Nat) (μ : Mem) : Option (Int32 × Mem) :=
  bM2 (f_M_met2 μ 1) (fun v1 μ2 =>
    some (v1, μ2)
  )
def f_M_copy_b111 (N : Nat) (μ : Mem) : Option (Int32 × Mem) :=
  bM2 (f_M_met2 μ 2) (fun v1 μ2 =>
    some (v1, μ2)
  )
def f_M_copy_l157 (N : Nat) : Nat → Int32 → Int32 → Int32 → Int32 → Mem → Option (Int32 × Mem)
  | 0, _, _, _, _, _ => none
  | n + 1, x3, x4, x5, x6, μ =>
    if x5 ≤ x6 then (
      some (1, μ)
    ) else (
      if ib x6 120 then
        if ib ((((120 : Int32) * x3) + x4) + x6) 480 then
          nm (sI μ 47 (ix ((((120 : Int32) * x3) + x4) + x6)) (gI μ 48 (ix x6))) (fun μ3 =>
            nm (x6 + 1) (fun v4 =>
              (f_M_copy_l157 N n) x3 x4 x5 v4 μ3
            )
          )
        else none
      else none
    )
def f_M_copy_l120 (N : Nat) : Nat → Int32 → Int32 → Int32 → Int32 → Int32 → Int32 → Mem → Option (Int32 × Mem)
  | 0, _, _, _, _, _, _, _ => none
  | n + 1, x1, x2, x3, x4, x5, x6, μ =>
    if x5 ≤ x6 then (
      f_M_copy_l157 N N x3 x4 x5 0 μ
    ) else (
      if ib ((((120 : Int32) * x1) + x2) + x6) 480 then
        if ib x6 120 then
          nm (sI μ 48 (ix x6) (gI μ 47 (ix ((((120 : Int32) * x1) + x2) + x6)))) (fun μ3 =>
            nm (x6 + 1) (fun v4 =>
              (f_M_copy_l120 N n) x1 x2 x3 x4 x5 v4 μ3
            )
          )
        else none
      else none
    )
def f_M_copy (N : Nat) (μ : Mem) (x1 : Int32) (x2 : Int32) (x3 : Int32) (x4 : Int32) (x5 : Int32) : Option (Int32 × Mem) :=
  Option.bind (f_M_isSheet x1) (fun v1 =>
    if v1 = 0 then (
      some ((-2), μ)
    ) else (
      Option.bind (f_M_isSheet x3) (fun v2 =>
        if ¬ v2 = 0 then (
          if ib x1 4 then
            if (gI μ 45 (ix x1)) < 0 then (
              f_M_copy_b35 N μ
            ) else (
              if ib x3 4 then
                if 0 ≤ (gI μ 45 (ix x3)) then (
                  if ib x1 4 then
                    if ib x3 4 then
                      if (gI μ 45 (ix x1)) = (gI μ 45 (ix x3)) then (
                        if x2 < 0 then (
                          f_M_copy_b111 N μ
                        ) else (
                          if x4 < 0 then (
                            f_M_copy_b111 N μ
                          ) else (
                            if x5 < 0 then (
                              f_M_copy_b111 N μ
                            ) else (
                              if ib x1 4 then
                                if ((gI μ 46 (ix x1)).toInt64) < ((x2.toInt64) + x5.toInt64) then (
                                  f_M_copy_b111 N μ
                                ) else (
                                  if ib x3 4 then
                                    if ((x4.toInt64) + x5.toInt64) ≤ ((gI μ 46 (ix x3)).toInt64) then (
                                      f_M_copy_l120 N N x1 x2 x3 x4 x5 0 μ
                                    ) else (
                                      f_M_copy_b111 N μ
                                    )
                                  else none
                                )
                              else none
                            )
                          )
                        )
                      ) else (
                        bM2 (f_M_met2 μ 4) (fun v9 μ10 =>
                          some (v9, μ10)
                        )
                      )
                    else none
                  else none
                ) else (
                  f_M_copy_b35 N μ
                )
              else none
            )
          else none
        ) else (
          some ((-2), μ)
        )
      )
    )
  )
/-- TopYardModel.write(II)I -/
def f_M_write_l91 (N : Nat) : Nat → Int32 → Int32 → Int32 → Mem → Option (Int32 × Mem)
  | 0, _, _, _, _ => none
  | n + 1, x1, x4, x5, μ =>
    if x4 ≤ x5 then (
      some (x4, μ)
    ) else (
      if ib x1 4 then
        Option.bind (f_M_stateOf μ (x5 / 8) (x5 - x5 / 8 * 8)) (fun v2 =>
          Option.bind (f_M_cut (gI μ 45 (ix x1)) v2) (fun v3 =>
            if ib (((120 : Int32) * x1) + x5) 480 then
              nm (sI μ 47 (ix (((120 : Int32) * x1) + x5)) v3) (fun μ5 =>
                nm (x5 + 1) (fun v6 =>
                  (f_M_write_l91 N n) x1 x4 v6 μ5
                )
              )
            else none
          )
        )
      else none
    )
def f_M_write_b86 (N : Nat) (x1 : Int32) (xs0 : Int32) (μ : Mem) : Option (Int32 × Mem) :=
  f_M_write_l91 N N x1 xs0 0 μ
def f_M_write (N : Nat) (μ : Mem) (x1 : Int32) (x2 : Int32) : Option (Int32 × Mem) :=
  Option.bind (f_M_isSheet x1) (fun v1 =>
    if v1 = 0 then (
      some ((-2), μ)
    ) else (
      Option.bind (f_M_in (x2.toInt64) 0 400) (fun v2 =>
        if ¬ v2 = 0 then (
          if ib x1 4 then
            if 0 ≤ (gI μ 45 (ix x1)) then (
              if (2 : Int32) ≤ (gI μ 0 15) then (
                bM2 (f_M_runsBout N μ x2) (fun v4 μ5 =>
                  if ib x1 4 then
                    if (gI μ5 46 (ix x1)) ≤ ((8 : Int32) * (gI μ5 0 15)) then (
                      if ib x1 4 then
                        f_M_write_b86 N x1 (gI μ5 46 (ix x1)) μ5
                      else none
                    ) else (
                      f_M_write_b86 N x1 ((8 : Int32) * (gI μ5 0 15)) μ5
                    )
                  else none
                )
              ) else (
                some ((-3), μ)
              )
            ) else (
              bM2 (f_M_met2 μ 1) (fun v9 μ10 =>
                some (v9, μ10)
              )
            )
          else none
        ) else (
          some ((-2), μ)
        )
      )
    )
  )
/-- TopYardModel.count(I)I -/
def f_M_count (μ : Mem) (x1 : Int32) : Option (Int32) :=
  if x1 = 0 then (
    some (gI μ 0 1)
  ) else
  if x1 = 1 then (
    some (gI μ 0 11)
  ) else
  if x1 = 2 then (
    some (gI μ 0 15)
  ) else
  if x1 = 3 then (
    some (gI μ 0 21)
  ) else
  if x1 = 4 then (
    some (gI μ 0 37)
  ) else
  if x1 = 5 then (
    some (gI μ 0 38)
  ) else
  if x1 = 6 then (
    some (gI μ 0 48)
  ) else
  if x1 = 7 then (
    some (gI μ 0 55)
  ) else
  if x1 = 8 then (
    some (gI μ 0 66)
  ) else
  if x1 = 9 then (
    some (gI μ 0 9)
  ) else
  if x1 = 10 then (
    some (gI μ 0 10)
  ) else
  (
    some (-2)
  )
/-- TopYardModel.digest()J -/
def f_M_digest_b34 (N : Nat) (k6 : Int64 → Int32 → Mem → Option (Int64 × Mem)) (x3 : Int32) (xs0 : Int64) (μ : Mem) : Option (Int64 × Mem) :=
  nm (x3 + 1) (fun v1 =>
    k6 xs0 v1 μ
  )
def f_M_digest_l162 (N : Nat) (k151 : Int64 → Int32 → Mem → Option (Int64 × Mem)) : Nat → Int64 → Int32 → Int32 → Mem → Option (Int64 × Mem)
  | 0, _, _, _, _ => none
  | n + 1, x1, x3, x4, μ =>
    if (8 : Int32) ≤ x4 then (
      nm (x3 + 1) (fun v1 =>
        k151 x1 v1 μ
      )
    ) else (
      if ib (((8 : Int32) * x3) + x4) 64 then
        nm (((31 : Int64) * x1) + (gI μ 42 (ix (((8 : Int32) * x3) + x4))).toInt64) (fun v3 =>
          nm (x4 + 1) (fun v4 =>
            (f_M_digest_l162 N k151 n) v3 x3 v4 μ
          )
        )
      else none
    )
def f_M_digest_l151 (N : Nat) : Nat → Int64 → Int32 → Mem → Option (Int64 × Mem)
  | 0, _, _, _ => none
  | n + 1, x1, x3, μ =>
    if (8 : Int32) ≤ x3 then (
      some (x1, μ)
    ) else (
      nm (x3 + 1) (fun v1 =>
        f_M_digest_l162 N (f_M_digest_l151 N n) N x1 x3 v1 μ
      )
    )
def f_M_digest_l87 (N : Nat) : Nat → Int64 → Int32 → Mem → Option (Int64 × Mem)
  | 0, _, _, _ => none
  | n + 1, x1, x3, μ =>
    if (8 : Int32) ≤ x3 then (
      bM2 (f_M_run N μ) (fun v1 μ2 =>
        nm (((31 : Int64) * x1) + v1.toInt64) (fun v3 =>
          bM2 (f_M_winner N μ2) (fun v4 μ5 =>
            nm (((31 : Int64) * v3) + v4.toInt64) (fun v6 =>
              bM2 (f_M_value N μ5) (fun v7 μ8 =>
                nm (((31 : Int64) * v6) + v7.toInt64) (fun v9 =>
                  f_M_digest_l151 N N v9 0 μ8
                )
              )
            )
          )
        )
      )
    ) else (
      if ib x3 8 then
        nm (((31 : Int64) * x1) + (gI μ 8 (ix x3)).toInt64) (fun v14 =>
          nm (x3 + 1) (fun v15 =>
            (f_M_digest_l87 N n) v14 v15 μ
          )
        )
      else none
    )
def f_M_digest_l43 (N : Nat) : Nat → Int64 → Int32 → Mem → Option (Int64 × Mem)
  | 0, _, _, _ => none
  | n + 1, x1, x3, μ =>
    if (gI μ 0 1) ≤ x3 then (
      f_M_digest_l87 N N x1 0 μ
    ) else (
      if ib x3 40 then
        nm (((31 : Int64) * x1) + (gI μ 6 (ix x3)).toInt64) (fun v2 =>
          if ib x3 40 then
            nm (((31 : Int64) * v2) + (gI μ 7 (ix x3)).toInt64) (fun v4 =>
              nm (x3 + 1) (fun v5 =>
                (f_M_digest_l43 N n) v4 v5 μ
              )
            )
          else none
        )
      else none
    )
def f_M_digest_l6 (N : Nat) : Nat → Int64 → Int32 → Mem → Option (Int64 × Mem)
  | 0, _, _, _ => none
  | n + 1, x1, x3, μ =>
    if (11 : Int32) ≤ x3 then (
      f_M_digest_l43 N N x1 0 μ
    ) else (
      if ¬ x3 = (8 : Int32) then (
        Option.bind (f_M_count μ x3) (fun v1 =>
          f_M_digest_b34 N (f_M_digest_l6 N n) x3 (((31 : Int64) * x1) + v1.toInt64) μ
        )
      ) else (
        f_M_digest_b34 N (f_M_digest_l6 N n) x3 x1 μ
      )
    )
def f_M_digest (N : Nat) (μ : Mem) : Option (Int64 × Mem) :=
  f_M_digest_l6 N N 17 0 μ

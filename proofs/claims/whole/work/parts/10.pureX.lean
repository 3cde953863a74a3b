/-- TopYard.within(III)Z -/
def f_X_within (x0 : Int32) (x1 : Int32) (x2 : Int32) : Option (Int32) :=
  if x0 < x1 then (
    some 0
  ) else (
    if x2 < x0 then (
      some 0
    ) else (
      some 1
    )
  )
/-- TopYard$Headings.alongX(I)I -/
def f_Hd_alongX_b14 (μ : Mem) (xs0 : Int32) : Option (Int32) :=
  if xs0 < 0 then (
    some 0
  ) else (
    if xs0 ≤ (18 : Int32) then (
      if xs0 ≤ (9 : Int32) then (
        if ib xs0 10 then
          some (([65, 63, 60, 56, 52, 39, 33, 25, 16, 0] : List Int32).getD (ix xs0) 0)
        else none
      ) else (
        if ib ((18 : Int32) - xs0) 10 then
          some (-(([65, 63, 60, 56, 52, 39, 33, 25, 16, 0] : List Int32).getD (ix ((18 : Int32) - xs0)) 0))
        else none
      )
    ) else (
      some 0
    )
  )
def f_Hd_alongX (μ : Mem) (x0 : Int32) : Option (Int32) :=
  if x0 ≤ (18 : Int32) then (
    f_Hd_alongX_b14 μ x0
  ) else (
    f_Hd_alongX_b14 μ ((36 : Int32) - x0)
  )
/-- TopYard$Headings.alongY(I)I -/
def f_Hd_alongY_b20 (μ : Mem) (xs0 : Int32) : Option (Int32) :=
  Option.bind (f_Hd_alongX μ xs0) (fun v1 =>
    some v1
  )
def f_Hd_alongY (μ : Mem) (x0 : Int32) : Option (Int32) :=
  if (9 : Int32) ≤ x0 then (
    f_Hd_alongY_b20 μ (x0 - 9)
  ) else (
    f_Hd_alongY_b20 μ ((x0 + 36) - 9)
  )
/-- TopYard.turn(II)I -/
def f_X_turn (μ : Mem) (x1 : Int32) (x2 : Int32) : Option (Int32) :=
  Option.bind (f_X_within x1 0 35) (fun v1 =>
    if v1 = 0 then (
      some (-1000)
    ) else (
      Option.bind (f_X_within x2 0 1) (fun v2 =>
        if ¬ v2 = 0 then (
          if ¬ x2 = 0 then (
            Option.bind (f_Hd_alongY μ x1) (fun v3 =>
              some v3
            )
          ) else (
            Option.bind (f_Hd_alongX μ x1) (fun v5 =>
              some v5
            )
          )
        ) else (
          some (-1000)
        )
      )
    )
  )
/-- TopYard.isOwner(I)Z -/
def f_X_isOwner (x0 : Int32) : Option (Int32) :=
  if x0 < 0 then (
    some 0
  ) else (
    if (8 : Int32) ≤ x0 then (
      some 0
    ) else (
      some 1
    )
  )
/-- TopYard.topAt(I)LTopYard$Top; -/
def f_X_topAt (μ : Mem) (x1 : Int32) : Option (Option Nat) :=
  if x1 < 0 then (
    some none
  ) else (
    if (gI μ 0 1) ≤ x1 then (
      some none
    ) else (
      if (40 : Int32) ≤ x1 then (
        some none
      ) else (
        if ib x1 40 then
          nm (gR μ 1 (ix x1)) (fun u2 =>
            some u2
          )
        else none
      )
    )
  )
/-- TopYard.about(II)I -/
def f_X_about (μ : Mem) (x1 : Int32) (x2 : Int32) : Option (Int32) :=
  Option.bind (f_X_topAt μ x1) (fun u1 =>
    match u1 with
    | none =>
      some (-1000)
    | some e2 =>
      if x2 = 0 then (
        some (gI μ e2 0)
      ) else
      if x2 = 1 then (
        some (gI μ e2 1)
      ) else
      if x2 = 2 then (
        some (gI μ e2 2)
      ) else
      if x2 = 3 then (
        some (gI μ e2 3)
      ) else
      if x2 = 4 then (
        some (gI μ e2 4)
      ) else
      if x2 = 5 then (
        some (gI μ e2 5)
      ) else
      (
        some (-1000)
      )
  )
/-- TopYard.wear(II)I -/
def f_X_wear (μ : Mem) (x1 : Int32) (x2 : Int32) : Option (Int32 × Mem) :=
  Option.bind (f_X_topAt μ x1) (fun u1 =>
    match u1 with
    | none =>
      some ((-2), μ)
    | some e2 =>
      Option.bind (f_X_within x2 0 9) (fun v3 =>
        if ¬ v3 = 0 then (
          nm (gI μ e2 5) (fun v4 =>
            nm (sI μ e2 5 x2) (fun μ5 =>
              some (v4, μ5)
            )
          )
        ) else (
          some ((-2), μ)
        )
      )
  )
/-- TopYard.give(II)I -/
def f_X_give (μ : Mem) (x1 : Int32) (x2 : Int32) : Option (Int32 × Mem) :=
  Option.bind (f_X_topAt μ x1) (fun u1 =>
    match u1 with
    | none =>
      some ((-2), μ)
    | some e2 =>
      Option.bind (f_X_isOwner x2) (fun v3 =>
        if ¬ v3 = 0 then (
          nm (gI μ e2 4) (fun v4 =>
            nm (sI μ e2 4 x2) (fun μ5 =>
              some (v4, μ5)
            )
          )
        ) else (
          some ((-2), μ)
        )
      )
  )
/-- TopYard.bowl(II)I -/
def f_X_bowl_b32 (x1 : Int32) (x2 : Int32) (μ : Mem) : Option (Int32 × Mem) :=
  if ¬ x1 = (1 : Int32) then (
    some ((-2), μ)
  ) else (
    Option.bind (f_X_within x2 0 30) (fun v1 =>
      if v1 = 0 then (
        some ((-2), μ)
      ) else (
        nm (gI μ 2 1) (fun v2 =>
          nm (sI μ 2 1 x2) (fun μ3 =>
            some (v2, μ3)
          )
        )
      )
    )
  )
def f_X_bowl (μ : Mem) (x1 : Int32) (x2 : Int32) : Option (Int32 × Mem) :=
  if ¬ x1 = 0 then (
    f_X_bowl_b32 x1 x2 μ
  ) else (
    Option.bind (f_X_within x2 5 30) (fun v1 =>
      if v1 = 0 then (
        f_X_bowl_b32 x1 x2 μ
      ) else (
        nm (gI μ 2 0) (fun v2 =>
          nm (sI μ 2 0 x2) (fun μ3 =>
            some (v2, μ3)
          )
        )
      )
    )
  )
/-- TopYard$Bowl.mayDent(II)Z -/
def f_Bw_mayDent (x0 : Int32) (x1 : Int32) : Option (Int32) :=
  if x0 < (-31 : Int32) then (
    some 0
  ) else (
    if (31 : Int32) < x0 then (
      some 0
    ) else (
      if x1 < (-31 : Int32) then (
        some 0
      ) else (
        if (31 : Int32) < x1 then (
          some 0
        ) else (
          some 1
        )
      )
    )
  )
/-- TopYard$Bowl.raise(III)Z -/
def f_Bw_raise (μ : Mem) (x1 : Int32) (x2 : Int32) (x3 : Int32) : Option (Int32 × Mem) :=
  if (24 : Int32) ≤ (gI μ 2 2) then (
    some (0, μ)
  ) else (
    Option.bind (f_Bw_mayDent x1 x2) (fun v1 =>
      if ¬ v1 = 0 then (
        if ib ((((x1 + 31) * 63) + x2) + 31) 3969 then
          if ib ((((x1 + 31) * 63) + x2) + 31) 3969 then
            nm (sI μ 3 (ix ((((x1 + 31) * 63) + x2) + 31)) ((gI μ 3 (ix ((((x1 + 31) * 63) + x2) + 31))) + x3)) (fun μ4 =>
              nm (sI μ4 2 2 ((gI μ4 2 2) + 1)) (fun μ5 =>
                some (1, μ5)
              )
            )
          else none
        else none
      ) else (
        some (0, μ)
      )
    )
  )
/-- TopYard.dent(III)I -/
def f_X_dent (μ : Mem) (x1 : Int32) (x2 : Int32) (x3 : Int32) : Option (Int32 × Mem) :=
  Option.bind (f_Bw_mayDent x1 x2) (fun v1 =>
    if v1 = 0 then (
      some ((-2), μ)
    ) else (
      Option.bind (f_X_within x3 (-20) 20) (fun v2 =>
        if ¬ v2 = 0 then (
          bM2 (f_Bw_raise μ x1 x2 x3) (fun v3 μ4 =>
            if v3 = 0 then (
              some ((-4), μ4)
            ) else (
              some ((gI μ4 2 2), μ4)
            )
          )
        ) else (
          some ((-2), μ)
        )
      )
    )
  )
/-- java/util/Arrays.fill([II)V -/
def f_JA_fill_l5 (N : Nat) : Nat → Nat → Int32 → Int32 → Int32 → Mem → Option (Mem)
  | 0, _, _, _, _, _ => none
  | n + 1, a0, x1, x2, x3, μ =>
    if x3 ≤ x2 then (
      some μ
    ) else (
      if ib x2 (lnX a0) then
        nm (sI μ a0 (ix x2) x1) (fun μ2 =>
          nm (x2 + 1) (fun v3 =>
            (f_JA_fill_l5 N n) a0 x1 v3 x3 μ2
          )
        )
      else none
    )
def f_JA_fill (N : Nat) (μ : Mem) (a0 : Nat) (x1 : Int32) : Option (Mem) :=
  nm (Int32.ofNat (lnX a0)) (fun v1 =>
    f_JA_fill_l5 N N a0 x1 0 v1 μ
  )
/-- TopYard$Bowl.flatten()V -/
def f_Bw_flatten (N : Nat) (μ : Mem) : Option (Mem) :=
  Option.bind (f_JA_fill N μ 3 0) (fun μ1 =>
    nm (sI μ1 2 2 0) (fun μ2 =>
      some μ2
    )
  )
/-- TopYard.smooth()I -/
def f_X_smooth (N : Nat) (μ : Mem) : Option (Int32 × Mem) :=
  nm (gI μ 2 2) (fun v1 =>
    Option.bind (f_Bw_flatten N μ) (fun μ2 =>
      some (v1, μ2)
    )
  )
/-- TopYard$Bowl.heightAt(II)I -/
def f_Bw_heightAt (μ : Mem) (x1 : Int32) (x2 : Int32) : Option (Int32) :=
  nm (((x1 * x1) + (x2 * x2)) / 2) (fun v1 =>
    if x1 < (-31 : Int32) then (
      some v1
    ) else (
      if (31 : Int32) < x1 then (
        some v1
      ) else (
        if x2 < (-31 : Int32) then (
          some v1
        ) else (
          if x2 ≤ (31 : Int32) then (
            if ib ((((x1 + 31) * 63) + x2) + 31) 3969 then
              some (v1 + (gI μ 3 (ix ((((x1 + 31) * 63) + x2) + 31))))
            else none
          ) else (
            some v1
          )
        )
      )
    )
  )
/-- TopYard$Bowl.slopeAlongX(II)I -/
def f_Bw_slopeAlongX (μ : Mem) (x1 : Int32) (x2 : Int32) : Option (Int32) :=
  Option.bind (f_Bw_heightAt μ (x1 + 1) x2) (fun v1 =>
    Option.bind (f_Bw_heightAt μ (x1 - 1) x2) (fun v2 =>
      some (v1 - v2)
    )
  )
/-- TopYard$Bowl.slopeAlongY(II)I -/
def f_Bw_slopeAlongY (μ : Mem) (x1 : Int32) (x2 : Int32) : Option (Int32) :=
  Option.bind (f_Bw_heightAt μ x1 (x2 + 1)) (fun v1 =>
    Option.bind (f_Bw_heightAt μ x1 (x2 - 1)) (fun v2 =>
      some (v1 - v2)
    )
  )
/-- TopYard.height(III)I -/
def f_X_height (μ : Mem) (x1 : Int32) (x2 : Int32) (x3 : Int32) : Option (Int32) :=
  Option.bind (f_X_within x1 (-32) 32) (fun v1 =>
    if v1 = 0 then (
      some (-2147483648)
    ) else (
      Option.bind (f_X_within x2 (-32) 32) (fun v2 =>
        if ¬ v2 = 0 then (
          if x3 = 0 then (
            Option.bind (f_Bw_heightAt μ x1 x2) (fun v3 =>
              some v3
            )
          ) else
          if x3 = 1 then (
            Option.bind (f_Bw_slopeAlongX μ x1 x2) (fun v6 =>
              some v6
            )
          ) else
          if x3 = 2 then (
            Option.bind (f_Bw_slopeAlongY μ x1 x2) (fun v9 =>
              some v9
            )
          ) else
          (
            some (-2147483648)
          )
        ) else (
          some (-2147483648)
        )
      )
    )
  )
/-- TopYard.string(II)I -/
def f_X_string (μ : Mem) (x1 : Int32) (x2 : Int32) : Option (Int32 × Mem) :=
  Option.bind (f_X_isOwner x1) (fun v1 =>
    if v1 = 0 then (
      some ((-2), μ)
    ) else (
      Option.bind (f_X_within x2 0 200) (fun v2 =>
        if ¬ v2 = 0 then (
          if ib x1 8 then
            nm (gI μ 4 (ix x1)) (fun v4 =>
              if ib x1 8 then
                nm (sI μ 4 (ix x1) x2) (fun μ6 =>
                  some (v4, μ6)
                )
              else none
            )
          else none
        ) else (
          some ((-2), μ)
        )
      )
    )
  )
/-- TopYard$Bout.at(I)LTopYard$Spinner; -/
def f_Bt_at (μ : Mem) (a0 : Nat) (x1 : Int32) : Option (Option Nat) :=
  if x1 < 0 then (
    some none
  ) else (
    if (gI μ a0 1) ≤ x1 then (
      some none
    ) else (
      if (4 : Int32) ≤ x1 then (
        some none
      ) else (
        if ib x1 4 then
          some (some (srX (srX a0 0) (ix x1)))
        else none
      )
    )
  )
/-- TopYard$Bout.holds(I)Z -/
def f_Bt_holds_b30 (N : Nat) (μ : Mem) (k2 : Int32 → Int32 → Option (Int32)) (x1 : Int32) (x2 : Int32) : Option (Int32) :=
  nm (x2 + 1) (fun v1 =>
    k2 x1 v1
  )
def f_Bt_holds_l2 (N : Nat) (μ : Mem) : Nat → Int32 → Int32 → Option (Int32)
  | 0, _, _ => none
  | n + 1, x1, x2 =>
    if (gI μ 5 1) ≤ x2 then (
      some 0
    ) else (
      Option.bind (f_Bt_at μ 5 x2) (fun u1 =>
        match u1 with
        | none =>
          f_Bt_holds_b30 N μ (f_Bt_holds_l2 N μ n) x1 x2
        | some e2 =>
          if ¬ (gI μ e2 1) = x1 then (
            f_Bt_holds_b30 N μ (f_Bt_holds_l2 N μ n) x1 x2
          ) else (
            some 1
          )
      )
    )
def f_Bt_holds (N : Nat) (μ : Mem) (x1 : Int32) : Option (Int32) :=
  f_Bt_holds_l2 N μ N x1 0
/-- TopYard$Bout.addSpinner(LTopYard$Top;I)LTopYard$Spinner; -/
def f_Bt_addSpinner (μ : Mem) (a0 : Nat) (a1 : Nat) (x2 : Int32) : Option (Option Nat × Mem) :=
  if (gI μ a0 1) < (4 : Int32) then (
    nm (sI μ a0 1 ((gI μ a0 1) + 1)) (fun μ1 =>
      Option.bind (f_Bt_at μ1 a0 ((gI μ1 a0 1) - 1)) (fun u2 =>
        match u2 with
        | none =>
          some (none, μ1)
        | some e3 =>
          nm (sR μ1 e3 0 (some a1)) (fun μ4 =>
            nm (sI μ4 e3 1 x2) (fun μ5 =>
              some ((some e3), μ5)
            )
          )
      )
    )
  ) else (
    some (none, μ)
  )
/-- TopYard$Spinner.set(IIII)V -/
def f_Sp_set (μ : Mem) (a0 : Nat) (x1 : Int32) (x2 : Int32) (x3 : Int32) (x4 : Int32) : Option (Mem) :=
  nm (sI μ a0 2 x1) (fun μ1 =>
    nm (sI μ1 a0 3 x2) (fun μ2 =>
      nm (sI μ2 a0 4 x3) (fun μ3 =>
        nm (sI μ3 a0 5 x4) (fun μ4 =>
          some μ4
        )
      )
    )
  )
/-- TopYard.enter(IIIII)I -/
def f_X_enter_b34 (N : Nat) (x1 : Int32) (x2 : Int32) (x3 : Int32) (x4 : Int32) (x5 : Int32) (o6 : Option Nat) (xs0 : Int32) (μ : Mem) : Option (Int32 × Mem) :=
  match o6 with
  | none =>
    some ((-2), μ)
  | some e1 =>
    if xs0 = 0 then (
      some ((-2), μ)
    ) else (
      Option.bind (f_X_within x4 0 35) (fun v2 =>
        if v2 = 0 then (
          some ((-2), μ)
        ) else (
          Option.bind (f_X_within x5 1 60) (fun v3 =>
            if ¬ v3 = 0 then (
              Option.bind (f_Bt_holds N μ x1) (fun v4 =>
                if v4 = 0 then (
                  bM2 (f_Bt_addSpinner μ 5 e1 x1) (fun u5 μ6 =>
                    match u5 with
                    | none =>
                      some ((-4), μ6)
                    | some e7 =>
                      Option.bind (f_Sp_set μ6 e7 x2 x3 x4 x5) (fun μ8 =>
                        some (((gI μ8 5 1) - 1), μ8)
                      )
                  )
                ) else (
                  some ((-2), μ)
                )
              )
            ) else (
              some ((-2), μ)
            )
          )
        )
      )
    )
def f_X_enter_b33 (N : Nat) (x1 : Int32) (x2 : Int32) (x3 : Int32) (x4 : Int32) (x5 : Int32) (o6 : Option Nat) (μ : Mem) : Option (Int32 × Mem) :=
  f_X_enter_b34 N x1 x2 x3 x4 x5 o6 0 μ
def f_X_enter (N : Nat) (μ : Mem) (x1 : Int32) (x2 : Int32) (x3 : Int32) (x4 : Int32) (x5 : Int32) : Option (Int32 × Mem) :=
  Option.bind (f_X_topAt μ x1) (fun u1 =>
    Option.bind (f_X_within x2 (-30) 30) (fun v2 =>
      if v2 = 0 then (
        f_X_enter_b33 N x1 x2 x3 x4 x5 u1 μ
      ) else (
        Option.bind (f_X_within x3 (-30) 30) (fun v3 =>
          if v3 = 0 then (
            f_X_enter_b33 N x1 x2 x3 x4 x5 u1 μ
          ) else (
            f_X_enter_b34 N x1 x2 x3 x4 x5 u1 1 μ
          )
        )
      )
    )
  )
/-- TopYard$Bout.empty()V -/
def f_Bt_empty (μ : Mem) (a0 : Nat) : Option (Mem) :=
  nm (sI μ a0 1 0) (fun μ1 =>
    nm (sI μ1 a0 5 0) (fun μ2 =>
      some μ2
    )
  )
/-- TopYard.clear()I -/
def f_X_clear (μ : Mem) : Option (Int32 × Mem) :=
  nm (gI μ 5 1) (fun v1 =>
    Option.bind (f_Bt_empty μ 5) (fun μ2 =>
      some (v1, μ2)
    )
  )
/-- TopYard$Bout.addWhip(III)Z -/
def f_Bt_addWhip (μ : Mem) (x1 : Int32) (x2 : Int32) (x3 : Int32) : Option (Int32 × Mem) :=
  if (gI μ 5 5) < (8 : Int32) then (
    if ib (gI μ 5 5) 8 then
      nm (sI μ 7 (ix (gI μ 5 5)) x1) (fun μ2 =>
        if ib (gI μ2 5 5) 8 then
          nm (sI μ2 8 (ix (gI μ2 5 5)) x2) (fun μ4 =>
            if ib (gI μ4 5 5) 8 then
              nm (sI μ4 9 (ix (gI μ4 5 5)) x3) (fun μ6 =>
                nm (sI μ6 5 5 ((gI μ6 5 5) + 1)) (fun μ7 =>
                  some (1, μ7)
                )
              )
            else none
          )
        else none
      )
    else none
  ) else (
    some (0, μ)
  )
/-- TopYard.whip(III)I -/
def f_X_whip_b25 (x1 : Int32) (x2 : Int32) (x3 : Int32) (xs0 : Int32) (μ : Mem) : Option (Int32 × Mem) :=
  if xs0 = 0 then (
    some ((-2), μ)
  ) else (
    Option.bind (f_X_within x3 1 100) (fun v1 =>
      if ¬ v1 = 0 then (
        bM2 (f_Bt_addWhip μ x1 x2 x3) (fun v2 μ3 =>
          if v2 = 0 then (
            some ((-4), μ3)
          ) else (
            some ((gI μ3 5 5), μ3)
          )
        )
      ) else (
        some ((-2), μ)
      )
    )
  )
def f_X_whip_b24 (x1 : Int32) (x2 : Int32) (x3 : Int32) (μ : Mem) : Option (Int32 × Mem) :=
  f_X_whip_b25 x1 x2 x3 0 μ
def f_X_whip (μ : Mem) (x1 : Int32) (x2 : Int32) (x3 : Int32) : Option (Int32 × Mem) :=
  Option.bind (f_X_within x1 0 3) (fun v1 =>
    if v1 = 0 then (
      f_X_whip_b24 x1 x2 x3 μ
    ) else (
      Option.bind (f_X_within x2 1 400) (fun v2 =>
        if v2 = 0 then (
          f_X_whip_b24 x1 x2 x3 μ
        ) else (
          f_X_whip_b25 x1 x2 x3 1 μ
        )
      )
    )
  )
/-- TopYard$Spinner.owner()I -/
def f_Sp_owner (μ : Mem) (a0 : Nat) : Option (Int32) :=
  nm (gR μ a0 0) (fun u1 =>
    match u1 with
    | none =>
      some (-1)
    | some e2 =>
      nm (gR μ a0 0) (fun u3 =>
        match u3 with
        | none => none
        | some e4 =>
          some (gI μ e4 4)
      )
  )
/-- java/lang/Math.max(II)I -/
def f_JM_max1 (x0 : Int32) (x1 : Int32) : Option (Int32) :=
  if x0 < x1 then (
    some x1
  ) else (
    some x0
  )
/-- java/lang/Math.min(II)I -/
def f_JM_min (x0 : Int32) (x1 : Int32) : Option (Int32) :=
  if x1 < x0 then (
    some x1
  ) else (
    some x0
  )
/-- TopYard$Spinner.begin(I)V -/
def f_Sp_begin (μ : Mem) (a0 : Nat) (x1 : Int32) : Option (Mem) :=
  nm (gR μ a0 0) (fun u1 =>
    match u1 with
    | none =>
      nm (sI μ a0 17 1) (fun μ3 =>
        some μ3
      )
    | some e2 =>
      nm (gR μ a0 0) (fun u4 =>
        match u4 with
        | none => none
        | some e5 =>
          Option.bind (f_JM_max1 1 (gI μ e5 0)) (fun v6 =>
            nm (sI μ a0 6 v6) (fun μ7 =>
              nm (gR μ7 a0 0) (fun u8 =>
                match u8 with
                | none => none
                | some e9 =>
                  nm (sI μ7 a0 7 (gI μ7 e9 1)) (fun μ10 =>
                    nm (gR μ10 a0 0) (fun u11 =>
                      match u11 with
                      | none => none
                      | some e12 =>
                        nm (sI μ10 a0 8 (gI μ10 e12 3)) (fun μ13 =>
                          nm (gR μ13 a0 0) (fun u14 =>
                            match u14 with
                            | none => none
                            | some e15 =>
                              nm (gR μ13 a0 0) (fun u16 =>
                                match u16 with
                                | none => none
                                | some e17 =>
                                  nm (sI μ13 a0 9 ((1 : Int32) + (((gI μ13 e15 2) + (gI μ13 e17 5)) / 4))) (fun μ18 =>
                                    nm (sL μ18 a0 10 (((65 : Int32) * (gI μ18 a0 2)).toInt64)) (fun μ19 =>
                                      nm (sL μ19 a0 11 (((65 : Int32) * (gI μ19 a0 3)).toInt64)) (fun μ20 =>
                                        nm (sI μ20 a0 14 (gI μ20 a0 4)) (fun μ21 =>
                                          Option.bind (f_Hd_alongX μ21 (gI μ21 a0 14)) (fun v22 =>
                                            nm (sL μ21 a0 12 (((gI μ21 a0 6) * v22).toInt64)) (fun μ23 =>
                                              Option.bind (f_Hd_alongY μ23 (gI μ23 a0 14)) (fun v24 =>
                                                nm (sL μ23 a0 13 (((gI μ23 a0 6) * v24).toInt64)) (fun μ25 =>
                                                  nm (gR μ25 a0 0) (fun u26 =>
                                                    match u26 with
                                                    | none => none
                                                    | some e27 =>
                                                      Option.bind (f_JM_min (gI μ25 a0 5) ((40 : Int32) - ((2 : Int32) * (gI μ25 e27 2)))) (fun v28 =>
                                                        Option.bind (f_JM_min v28 x1) (fun v29 =>
                                                          nm (sI μ25 a0 15 ((10 : Int32) * v29)) (fun μ30 =>
                                                            nm (gR μ30 a0 0) (fun u31 =>
                                                              match u31 with
                                                              | none => none
                                                              | some e32 =>
                                                                Option.bind (f_JM_min (gI μ30 e32 5) 4) (fun v33 =>
                                                                  nm (sI μ30 a0 16 v33) (fun μ34 =>
                                                                    nm (sI μ34 a0 17 0) (fun μ35 =>
                                                                      some μ35
                                                                    )
                                                                  )
                                                                )
                                                            )
                                                          )
                                                        )
                                                      )
                                                  )
                                                )
                                              )
                                            )
                                          )
                                        )
                                      )
                                    )
                                  )
                              )
                          )
                        )
                    )
                  )
              )
            )
          )
      )
  )
/-- TopYard$Bout.begin([I)V -/
def f_Bt_begin_b60 (N : Nat) (k12 : Nat → Int32 → Mem → Option (Mem)) (a0 : Nat) (x2 : Int32) (μ : Mem) : Option (Mem) :=
  nm (x2 + 1) (fun v1 =>
    k12 a0 v1 μ
  )
def f_Bt_begin_b57 (N : Nat) (k12 : Nat → Int32 → Mem → Option (Mem)) (a0 : Nat) (x2 : Int32) (xs0 : Int32) (as1 : Nat) (μ : Mem) : Option (Mem) :=
  Option.bind (f_Sp_begin μ as1 xs0) (fun μ1 =>
    f_Bt_begin_b60 N k12 a0 x2 μ1
  )
def f_Bt_begin_b56 (N : Nat) (k12 : Nat → Int32 → Mem → Option (Mem)) (a0 : Nat) (x2 : Int32) (as0 : Nat) (μ : Mem) : Option (Mem) :=
  f_Bt_begin_b57 N k12 a0 x2 0 as0 μ
def f_Bt_begin_l12 (N : Nat) : Nat → Nat → Int32 → Mem → Option (Mem)
  | 0, _, _, _ => none
  | n + 1, a0, x2, μ =>
    if (gI μ a0 1) ≤ x2 then (
      some μ
    ) else (
      Option.bind (f_Bt_at μ a0 x2) (fun u1 =>
        match u1 with
        | none =>
          f_Bt_begin_b60 N (f_Bt_begin_l12 N n) a0 x2 μ
        | some e2 =>
          Option.bind (f_Sp_owner μ e2) (fun v3 =>
            if v3 < 0 then (
              f_Bt_begin_b56 N (f_Bt_begin_l12 N n) a0 x2 e2 μ
            ) else (
              if (Int32.ofNat 8) ≤ v3 then (
                f_Bt_begin_b56 N (f_Bt_begin_l12 N n) a0 x2 e2 μ
              ) else (
                if ib v3 8 then
                  f_Bt_begin_b57 N (f_Bt_begin_l12 N n) a0 x2 (gI μ 4 (ix v3)) e2 μ
                else none
              )
            )
          )
      )
    )
def f_Bt_begin (N : Nat) (μ : Mem) (a0 : Nat) : Option (Mem) :=
  nm (sI μ a0 6 0) (fun μ1 =>
    nm (sI μ1 a0 7 0) (fun μ2 =>
      f_Bt_begin_l12 N N a0 0 μ2
    )
  )
/-- TopYard$Spinner.stands()Z -/
def f_Sp_stands (μ : Mem) (a0 : Nat) : Option (Int32) :=
  if ¬ (gI μ a0 17) = 0 then (
    some 0
  ) else (
    some 1
  )
/-- TopYard$Bout.lash(I)V -/
def f_Bt_lash_b57 (N : Nat) (k2 : Nat → Int32 → Int32 → Mem → Option (Mem)) (a0 : Nat) (x1 : Int32) (x2 : Int32) (μ : Mem) : Option (Mem) :=
  nm (x2 + 1) (fun v1 =>
    k2 a0 x1 v1 μ
  )
def f_Bt_lash_l2 (N : Nat) : Nat → Nat → Int32 → Int32 → Mem → Option (Mem)
  | 0, _, _, _, _ => none
  | n + 1, a0, x1, x2, μ =>
    if (gI μ a0 5) ≤ x2 then (
      some μ
    ) else (
      if ib x2 8 then
        Option.bind (f_Bt_at μ a0 (gI μ (srX a0 2) (ix x2))) (fun u2 =>
          if ib x2 8 then
            if ¬ (gI μ (srX a0 3) (ix x2)) = x1 then (
              f_Bt_lash_b57 N (f_Bt_lash_l2 N n) a0 x1 x2 μ
            ) else (
              match u2 with
              | none =>
                f_Bt_lash_b57 N (f_Bt_lash_l2 N n) a0 x1 x2 μ
              | some e4 =>
                Option.bind (f_Sp_stands μ e4) (fun v5 =>
                  if v5 = 0 then (
                    f_Bt_lash_b57 N (f_Bt_lash_l2 N n) a0 x1 x2 μ
                  ) else (
                    if ib x2 8 then
                      nm (sI μ e4 15 ((gI μ e4 15) + (gI μ (srX a0 4) (ix x2)))) (fun μ7 =>
                        f_Bt_lash_b57 N (f_Bt_lash_l2 N n) a0 x1 x2 μ7
                      )
                    else none
                  )
                )
            )
          else none
        )
      else none
    )
def f_Bt_lash (N : Nat) (μ : Mem) (a0 : Nat) (x1 : Int32) : Option (Mem) :=
  f_Bt_lash_l2 N N a0 x1 0 μ
/-- TopYard$Spinner.slow()V -/
def f_Sp_slow (μ : Mem) (a0 : Nat) : Option (Mem) :=
  Option.bind (f_JM_max1 0 (((gI μ a0 15) - (gI μ a0 9)) - (gI μ a0 16))) (fun v1 =>
    nm (sI μ a0 15 v1) (fun μ2 =>
      some μ2
    )
  )
/-- TopYard$Spinner.tilt()V -/
def f_Sp_tilt (μ : Mem) (a0 : Nat) : Option (Mem) :=
  if (gI μ a0 15) < ((100 : Int32) + ((10 : Int32) * (gI μ a0 16))) then (
    if (50 : Int32) ≤ (gI μ a0 15) then (
      some μ
    ) else (
      nm (sI μ a0 16 ((gI μ a0 16) + 1)) (fun μ1 =>
        some μ1
      )
    )
  ) else (
    Option.bind (f_JM_max1 0 ((gI μ a0 16) - 1)) (fun v2 =>
      nm (sI μ a0 16 v2) (fun μ3 =>
        some μ3
      )
    )
  )
/-- java/lang/Math.floorDiv(JJ)J -/
def f_JM_floorDiv (x0 : Int64) (x2 : Int64) : Option (Int64) :=
  if x2 = 0 then none else
  nm (x0 / x2) (fun v1 =>
    if (0 : Int64) ≤ (x0 ^^^ x2) then (
      some v1
    ) else (
      if (v1 * x2) = x0 then (
        some v1
      ) else (
        some (v1 - 1)
      )
    )
  )
/-- java/lang/Math.floorMod(II)I -/
def f_JM_floorMod (x0 : Int32) (x1 : Int32) : Option (Int32) :=
  if x1 = 0 then none else
  nm (x0 - x0 / x1 * x1) (fun v1 =>
    if 0 ≤ (x0 ^^^ x1) then (
      some v1
    ) else (
      if v1 = 0 then (
        some v1
      ) else (
        some (v1 + x1)
      )
    )
  )
/-- TopYard$Spinner.push(LTopYard$Bowl;)V -/
def f_Sp_push (μ : Mem) (a0 : Nat) : Option (Mem) :=
  Option.bind (f_JM_floorDiv (gL μ a0 10) 65) (fun v1 =>
    nm (v1.toInt32) (fun v2 =>
      Option.bind (f_JM_floorDiv (gL μ a0 11) 65) (fun v3 =>
        nm (v3.toInt32) (fun v4 =>
          Option.bind (f_Bw_slopeAlongX μ v2 v4) (fun v5 =>
            nm (sL μ a0 12 ((gL μ a0 12) - (((2 : Int64) * (gI μ a0 6).toInt64) * v5.toInt64))) (fun μ6 =>
              Option.bind (f_Bw_slopeAlongY μ6 v2 v4) (fun v7 =>
                nm (sL μ6 a0 13 ((gL μ6 a0 13) - (((2 : Int64) * (gI μ6 a0 6).toInt64) * v7.toInt64))) (fun μ8 =>
                  Option.bind (f_JM_floorMod ((gI μ8 a0 14) + ((gI μ8 a0 8) * ((1 : Int32) + (gI μ8 a0 16)))) 36) (fun v9 =>
                    nm (sI μ8 a0 14 v9) (fun μ10 =>
                      Option.bind (f_Hd_alongX μ10 (gI μ10 a0 14)) (fun v11 =>
                        nm (sL μ10 a0 12 ((gL μ10 a0 12) + ((((gI μ10 a0 6) * (gI μ10 a0 16)) * v11) / 65).toInt64)) (fun μ12 =>
                          Option.bind (f_Hd_alongY μ12 (gI μ12 a0 14)) (fun v13 =>
                            nm (sL μ12 a0 13 ((gL μ12 a0 13) + ((((gI μ12 a0 6) * (gI μ12 a0 16)) * v13) / 65).toInt64)) (fun μ14 =>
                              some μ14
                            )
                          )
                        )
                      )
                    )
                  )
                )
              )
            )
          )
        )
      )
    )
  )
/-- TopYard$Spinner.move()V -/
def f_Sp_move (μ : Mem) (a0 : Nat) : Option (Mem) :=
  nm (sL μ a0 12 ((gL μ a0 12) - ((gL μ a0 12) / 16))) (fun μ1 =>
    nm (sL μ1 a0 13 ((gL μ1 a0 13) - ((gL μ1 a0 13) / 16))) (fun μ2 =>
      if (gI μ2 a0 6) ≤ 0 then (
        some μ2
      ) else (
        if (gI μ2 a0 6).toInt64 = 0 then none else
        nm (sL μ2 a0 10 ((gL μ2 a0 10) + ((gL μ2 a0 12) / (gI μ2 a0 6).toInt64))) (fun μ3 =>
          if (gI μ3 a0 6).toInt64 = 0 then none else
          nm (sL μ3 a0 11 ((gL μ3 a0 11) + ((gL μ3 a0 13) / (gI μ3 a0 6).toInt64))) (fun μ4 =>
            some μ4
          )
        )
      )
    )
  )
/-- TopYard$Spinner.isWithin(I)Z -/
def f_Sp_isWithin (μ : Mem) (a0 : Nat) (x1 : Int32) : Option (Int32) :=
  nm ((65 : Int64) * x1.toInt64) (fun v1 =>
    if (v1 * v1) < (((gL μ a0 10) * (gL μ a0 10)) + ((gL μ a0 11) * (gL μ a0 11))) then (
      some 0
    ) else (
      some 1
    )
  )
/-- TopYard$Spinner.leave(I)V -/
def f_Sp_leave (μ : Mem) (a0 : Nat) (x1 : Int32) : Option (Mem) :=
  Option.bind (f_Sp_isWithin μ a0 x1) (fun v1 =>
    if ¬ v1 = 0 then (
      some μ
    ) else (
      nm (sI μ a0 17 1) (fun μ2 =>
        some μ2
      )
    )
  )
/-- TopYard$Bout.lock(LTopYard$Spinner;LTopYard$Spinner;)V -/
def f_Bt_lock (μ : Mem) (a0 : Nat) (a1 : Nat) : Option (Mem) :=
  nm ((gL μ a0 12) + (gL μ a1 12)) (fun v1 =>
    nm ((gL μ a0 13) + (gL μ a1 13)) (fun v2 =>
      nm (((gI μ a0 6) + (gI μ a1 6)).toInt64) (fun v3 =>
        if v3 ≤ (0 : Int64) then (
          some μ
        ) else (
          if v3 = 0 then none else
          nm (sL μ a0 12 ((v1 * (gI μ a0 6).toInt64) / v3)) (fun μ4 =>
            if v3 = 0 then none else
            nm (sL μ4 a0 13 ((v2 * (gI μ4 a0 6).toInt64) / v3)) (fun μ5 =>
              nm (sL μ5 a1 12 (v1 - (gL μ5 a0 12))) (fun μ6 =>
                nm (sL μ6 a1 13 (v2 - (gL μ6 a0 13))) (fun μ7 =>
                  some μ7
                )
              )
            )
          )
        )
      )
    )
  )
/-- TopYard$Bout.bounce(LTopYard$Spinner;LTopYard$Spinner;JJJ)V -/
def f_Bt_bounce (μ : Mem) (a0 : Nat) (a1 : Nat) (x2 : Int64) (x4 : Int64) (x6 : Int64) : Option (Mem) :=
  nm ((((gI μ a0 6) + (gI μ a1 6)).toInt64) * x6) (fun v1 =>
    if v1 ≤ (0 : Int64) then (
      some μ
    ) else (
      if v1 = 0 then none else
      nm (x2 / v1) (fun v2 =>
        if v1 = 0 then none else
        nm (x4 / v1) (fun v3 =>
          nm (sL μ a0 12 ((gL μ a0 12) + v2)) (fun μ4 =>
            nm (sL μ4 a1 12 ((gL μ4 a1 12) - v2)) (fun μ5 =>
              nm (sL μ5 a0 13 ((gL μ5 a0 13) + v3)) (fun μ6 =>
                nm (sL μ6 a1 13 ((gL μ6 a1 13) - v3)) (fun μ7 =>
                  some μ7
                )
              )
            )
          )
        )
      )
    )
  )
/-- TopYard$Bout.passSpin(LTopYard$Spinner;LTopYard$Spinner;)V -/
def f_Bt_passSpin_b29 (a0 : Nat) (a1 : Nat) (x2 : Int32) (xs0 : Int32) (μ : Mem) : Option (Mem) :=
  Option.bind (f_JM_max1 0 (((gI μ a0 15) - x2) - xs0)) (fun v1 =>
    nm (sI μ a0 15 v1) (fun μ2 =>
      Option.bind (f_JM_max1 0 (((gI μ2 a1 15) + x2) - xs0)) (fun v3 =>
        nm (sI μ2 a1 15 v3) (fun μ4 =>
          some μ4
        )
      )
    )
  )
def f_Bt_passSpin (μ : Mem) (a0 : Nat) (a1 : Nat) : Option (Mem) :=
  nm (((gI μ a0 15) - (gI μ a1 15)) / 8) (fun v1 =>
    if ¬ (gI μ a0 8) = (gI μ a1 8) then (
      f_Bt_passSpin_b29 a0 a1 v1 3 μ
    ) else (
      f_Bt_passSpin_b29 a0 a1 v1 1 μ
    )
  )
/-- TopYard$Bout.collide(LTopYard$Spinner;LTopYard$Spinner;)V -/
def f_Bt_collide_b197 (a1 : Nat) (a2 : Nat) (μ : Mem) : Option (Mem) :=
  Option.bind (f_Bt_passSpin μ a1 a2) (fun μ1 =>
    some μ1
  )
def f_Bt_collide_b38 (a0 : Nat) (a1 : Nat) (a2 : Nat) (x3 : Int64) (x5 : Int64) (μ : Mem) : Option (Mem) :=
  nm ((13 : Int64) * ((gI μ a1 7) + (gI μ a2 7)).toInt64) (fun v1 =>
    nm ((x3 * x3) + (x5 * x5)) (fun v2 =>
      nm (((((gL μ a2 12) * (gI μ a1 6).toInt64) - ((gL μ a1 12) * (gI μ a2 6).toInt64)) * x3) + ((((gL μ a2 13) * (gI μ a1 6).toInt64) - ((gL μ a1 13) * (gI μ a2 6).toInt64)) * x5)) (fun v3 =>
        if (v1 * v1) < v2 then (
          some μ
        ) else (
          if v3 < (0 : Int64) then (
            nm (sI μ a0 6 ((gI μ a0 6) + 1)) (fun μ4 =>
              if ¬ (gI μ4 a1 7) = (gI μ4 a2 7) then (
                Option.bind (f_Bt_bounce μ4 a1 a2 (((2 : Int64) * v3) * x3) (((2 : Int64) * v3) * x5) v2) (fun μ5 =>
                  f_Bt_collide_b197 a1 a2 μ5
                )
              ) else (
                nm (sI μ4 a0 7 ((gI μ4 a0 7) + 1)) (fun μ7 =>
                  Option.bind (f_Bt_lock μ7 a1 a2) (fun μ8 =>
                    f_Bt_collide_b197 a1 a2 μ8
                  )
                )
              )
            )
          ) else (
            some μ
          )
        )
      )
    )
  )
def f_Bt_collide (μ : Mem) (a0 : Nat) (a1 : Nat) (a2 : Nat) : Option (Mem) :=
  nm ((gL μ a2 10) - (gL μ a1 10)) (fun v1 =>
    nm ((gL μ a2 11) - (gL μ a1 11)) (fun v2 =>
      if ¬ v1 = (0 : Int64) then (
        f_Bt_collide_b38 a0 a1 a2 v1 v2 μ
      ) else (
        if ¬ v2 = (0 : Int64) then (
          f_Bt_collide_b38 a0 a1 a2 v1 v2 μ
        ) else (
          f_Bt_collide_b38 a0 a1 a2 65 v2 μ
        )
      )
    )
  )
/-- TopYard$Spinner.fall(I)V -/
def f_Sp_fall_b36 (xs0 : Int32) (as1 : Nat) (μ : Mem) : Option (Mem) :=
  nm (sI μ as1 17 xs0) (fun μ1 =>
    some μ1
  )
def f_Sp_fall_b35 (as0 : Nat) (μ : Mem) : Option (Mem) :=
  f_Sp_fall_b36 2 as0 μ
def f_Sp_fall_b18 (a0 : Nat) (x1 : Int32) (μ : Mem) : Option (Mem) :=
  if x1 < 0 then (
    f_Sp_fall_b35 a0 μ
  ) else (
    Option.bind (f_Sp_isWithin μ a0 x1) (fun v1 =>
      if v1 = 0 then (
        f_Sp_fall_b35 a0 μ
      ) else (
        f_Sp_fall_b36 3 a0 μ
      )
    )
  )
def f_Sp_fall (μ : Mem) (a0 : Nat) (x1 : Int32) : Option (Mem) :=
  if (gI μ a0 15) < (10 : Int32) then (
    f_Sp_fall_b18 a0 x1 μ
  ) else (
    if (gI μ a0 16) ≤ (8 : Int32) then (
      some μ
    ) else (
      f_Sp_fall_b18 a0 x1 μ
    )
  )
/-- TopYard$Bout.step(LTopYard$Bowl;II)V -/
def f_Bt_step_b68 (N : Nat) (k8 : Nat → Int32 → Int32 → Mem → Option (Mem)) (a0 : Nat) (x2 : Int32) (x4 : Int32) (μ : Mem) : Option (Mem) :=
  nm (x4 + 1) (fun v1 =>
    k8 a0 x2 v1 μ
  )
def f_Bt_step_b151 (N : Nat) (k77 : Nat → Int32 → Int32 → Mem → Option (Mem)) (k100 : Nat → Int32 → Int32 → Option Nat → Int32 → Mem → Option (Mem)) (a0 : Nat) (x2 : Int32) (x4 : Int32) (o5 : Option Nat) (x6 : Int32) (μ : Mem) : Option (Mem) :=
  nm (x6 + 1) (fun v1 =>
    k100 a0 x2 x4 o5 v1 μ
  )
def f_Bt_step_l100 (N : Nat) (k77 : Nat → Int32 → Int32 → Mem → Option (Mem)) : Nat → Nat → Int32 → Int32 → Option Nat → Int32 → Mem → Option (Mem)
  | 0, _, _, _, _, _, _ => none
  | n + 1, a0, x2, x4, o5, x6, μ =>
    if (gI μ a0 1) ≤ x6 then (
      nm (x4 + 1) (fun v1 =>
        k77 a0 x2 v1 μ
      )
    ) else (
      Option.bind (f_Bt_at μ a0 x6) (fun u2 =>
        match o5 with
        | none =>
          f_Bt_step_b151 N k77 (f_Bt_step_l100 N k77 n) a0 x2 x4 none x6 μ
        | some e3 =>
          match u2 with
          | none =>
            f_Bt_step_b151 N k77 (f_Bt_step_l100 N k77 n) a0 x2 x4 (some e3) x6 μ
          | some e4 =>
            Option.bind (f_Sp_stands μ e3) (fun v5 =>
              if v5 = 0 then (
                f_Bt_step_b151 N k77 (f_Bt_step_l100 N k77 n) a0 x2 x4 (some e3) x6 μ
              ) else (
                Option.bind (f_Sp_stands μ e4) (fun v6 =>
                  if v6 = 0 then (
                    f_Bt_step_b151 N k77 (f_Bt_step_l100 N k77 n) a0 x2 x4 (some e3) x6 μ
                  ) else (
                    Option.bind (f_Bt_collide μ a0 e3 e4) (fun μ7 =>
                      f_Bt_step_b151 N k77 (f_Bt_step_l100 N k77 n) a0 x2 x4 (some e3) x6 μ7
                    )
                  )
                )
              )
            )
      )
    )
def f_Bt_step_b202 (N : Nat) (k166 : Nat → Int32 → Int32 → Mem → Option (Mem)) (a0 : Nat) (x2 : Int32) (x4 : Int32) (μ : Mem) : Option (Mem) :=
  nm (x4 + 1) (fun v1 =>
    k166 a0 x2 v1 μ
  )
def f_Bt_step_l166 (N : Nat) : Nat → Nat → Int32 → Int32 → Mem → Option (Mem)
  | 0, _, _, _, _ => none
  | n + 1, a0, x2, x4, μ =>
    if (gI μ a0 1) ≤ x4 then (
      some μ
    ) else (
      Option.bind (f_Bt_at μ a0 x4) (fun u1 =>
        match u1 with
        | none =>
          f_Bt_step_b202 N (f_Bt_step_l166 N n) a0 x2 x4 μ
        | some e2 =>
          Option.bind (f_Sp_stands μ e2) (fun v3 =>
            if v3 = 0 then (
              f_Bt_step_b202 N (f_Bt_step_l166 N n) a0 x2 x4 μ
            ) else (
              Option.bind (f_Sp_fall μ e2 x2) (fun μ4 =>
                f_Bt_step_b202 N (f_Bt_step_l166 N n) a0 x2 x4 μ4
              )
            )
          )
      )
    )
def f_Bt_step_l77 (N : Nat) : Nat → Nat → Int32 → Int32 → Mem → Option (Mem)
  | 0, _, _, _, _ => none
  | n + 1, a0, x2, x4, μ =>
    if (gI μ a0 1) ≤ x4 then (
      f_Bt_step_l166 N N a0 x2 0 μ
    ) else (
      Option.bind (f_Bt_at μ a0 x4) (fun u1 =>
        nm (x4 + 1) (fun v2 =>
          f_Bt_step_l100 N (f_Bt_step_l77 N n) N a0 x2 x4 u1 v2 μ
        )
      )
    )
def f_Bt_step_l8 (N : Nat) : Nat → Nat → Int32 → Int32 → Mem → Option (Mem)
  | 0, _, _, _, _ => none
  | n + 1, a0, x2, x4, μ =>
    if (gI μ a0 1) ≤ x4 then (
      f_Bt_step_l77 N N a0 x2 0 μ
    ) else (
      Option.bind (f_Bt_at μ a0 x4) (fun u1 =>
        match u1 with
        | none =>
          f_Bt_step_b68 N (f_Bt_step_l8 N n) a0 x2 x4 μ
        | some e2 =>
          Option.bind (f_Sp_stands μ e2) (fun v3 =>
            if v3 = 0 then (
              f_Bt_step_b68 N (f_Bt_step_l8 N n) a0 x2 x4 μ
            ) else (
              Option.bind (f_Sp_slow μ e2) (fun μ4 =>
                Option.bind (f_Sp_tilt μ4 e2) (fun μ5 =>
                  Option.bind (f_Sp_push μ5 e2) (fun μ6 =>
                    Option.bind (f_Sp_move μ6 e2) (fun μ7 =>
                      Option.bind (f_Sp_leave μ7 e2 (gI μ7 2 0)) (fun μ8 =>
                        f_Bt_step_b68 N (f_Bt_step_l8 N n) a0 x2 x4 μ8
                      )
                    )
                  )
                )
              )
            )
          )
      )
    )
def f_Bt_step (N : Nat) (μ : Mem) (a0 : Nat) (x2 : Int32) (x3 : Int32) : Option (Mem) :=
  Option.bind (f_Bt_lash N μ a0 x3) (fun μ1 =>
    f_Bt_step_l8 N N a0 x2 0 μ1
  )
/-- TopYard$Bout.standsAt(I)Z -/
def f_Bt_standsAt (μ : Mem) (a0 : Nat) (x1 : Int32) : Option (Int32) :=
  Option.bind (f_Bt_at μ a0 x1) (fun u1 =>
    match u1 with
    | none =>
      some 0
    | some e2 =>
      Option.bind (f_Sp_stands μ e2) (fun v3 =>
        if v3 = 0 then (
          some 0
        ) else (
          some 1
        )
      )
  )
/-- TopYard$Bout.standing()I -/
def f_Bt_standing_b26 (N : Nat) (μ : Mem) (k4 : Nat → Int32 → Int32 → Option (Int32)) (a0 : Nat) (x2 : Int32) (xs0 : Int32) (xs1 : Int32) : Option (Int32) :=
  nm (xs1 + xs0) (fun v1 =>
    nm (x2 + 1) (fun v2 =>
      k4 a0 v1 v2
    )
  )
def f_Bt_standing_l4 (N : Nat) (μ : Mem) : Nat → Nat → Int32 → Int32 → Option (Int32)
  | 0, _, _, _ => none
  | n + 1, a0, x1, x2 =>
    if (gI μ a0 1) ≤ x2 then (
      some x1
    ) else (
      Option.bind (f_Bt_standsAt μ a0 x2) (fun v1 =>
        if v1 = 0 then (
          f_Bt_standing_b26 N μ (f_Bt_standing_l4 N μ n) a0 x2 0 x1
        ) else (
          f_Bt_standing_b26 N μ (f_Bt_standing_l4 N μ n) a0 x2 1 x1
        )
      )
    )
def f_Bt_standing (N : Nat) (μ : Mem) (a0 : Nat) : Option (Int32) :=
  f_Bt_standing_l4 N μ N a0 0 0
/-- TopYard$Bout.spinUntil(LTopYard$Bowl;[III)I -/
def f_Bt_spinUntil_l8 (N : Nat) : Nat → Nat → Int32 → Int32 → Int32 → Mem → Option (Int32 × Mem)
  | 0, _, _, _, _, _ => none
  | n + 1, a0, x3, x4, x5, μ =>
    if x4 < x5 then (
      some (x4, μ)
    ) else (
      Option.bind (f_Bt_step N μ a0 x3 x5) (fun μ1 =>
        Option.bind (f_Bt_standing N μ1 a0) (fun v2 =>
          if (1 : Int32) < v2 then (
            nm (x5 + 1) (fun v3 =>
              (f_Bt_spinUntil_l8 N n) a0 x3 x4 v3 μ1
            )
          ) else (
            some (x5, μ1)
          )
        )
      )
    )
def f_Bt_spinUntil (N : Nat) (μ : Mem) (a0 : Nat) (x3 : Int32) (x4 : Int32) : Option (Int32 × Mem) :=
  Option.bind (f_Bt_begin N μ a0) (fun μ1 =>
    f_Bt_spinUntil_l8 N N a0 x3 x4 1 μ1
  )
/-- TopYard.spinBout(I)I -/
def f_X_spinBout (N : Nat) (μ : Mem) (x1 : Int32) : Option (Int32 × Mem) :=
  bM2 (f_Bt_spinUntil N μ 5 (gI μ 2 1) x1) (fun v1 μ2 =>
    some (v1, μ2)
  )
/-- TopYard.run()I -/
def f_X_run (N : Nat) (μ : Mem) : Option (Int32 × Mem) :=
  if (2 : Int32) ≤ (gI μ 5 1) then (
    bM2 (f_X_spinBout N μ 400) (fun v1 μ2 =>
      some (v1, μ2)
    )
  ) else (
    some ((-3), μ)
  )
/-- TopYard$Bout.lonePlace()I -/
def f_Bt_lonePlace_l12 (N : Nat) (μ : Mem) : Nat → Nat → Int32 → Option (Int32)
  | 0, _, _ => none
  | n + 1, a0, x1 =>
    if (gI μ a0 1) ≤ x1 then (
      some (-1)
    ) else (
      Option.bind (f_Bt_standsAt μ a0 x1) (fun v1 =>
        if v1 = 0 then (
          nm (x1 + 1) (fun v2 =>
            (f_Bt_lonePlace_l12 N μ n) a0 v2
          )
        ) else (
          some x1
        )
      )
    )
def f_Bt_lonePlace (N : Nat) (μ : Mem) (a0 : Nat) : Option (Int32) :=
  Option.bind (f_Bt_standing N μ a0) (fun v1 =>
    if v1 = (1 : Int32) then (
      f_Bt_lonePlace_l12 N μ N a0 0
    ) else (
      some (-1)
    )
  )
/-- TopYard.winner()I -/
def f_X_winner (N : Nat) (μ : Mem) : Option (Int32 × Mem) :=
  if (2 : Int32) ≤ (gI μ 5 1) then (
    bM2 (f_X_spinBout N μ 400) (fun v1 μ2 =>
      Option.bind (f_Bt_lonePlace N μ2 5) (fun v3 =>
        some (v3, μ2)
      )
    )
  ) else (
    some ((-3), μ)
  )
/-- TopYard.knocks(I)I -/
def f_X_knocks (N : Nat) (μ : Mem) (x1 : Int32) : Option (Int32 × Mem) :=
  Option.bind (f_X_within x1 0 1) (fun v1 =>
    if ¬ v1 = 0 then (
      if (2 : Int32) ≤ (gI μ 5 1) then (
        bM2 (f_X_spinBout N μ 400) (fun v2 μ3 =>
          if ¬ x1 = 0 then (
            some ((gI μ3 5 7), μ3)
          ) else (
            some ((gI μ3 5 6), μ3)
          )
        )
      ) else (
        some ((-3), μ)
      )
    ) else (
      some ((-2), μ)
    )
  )
/-- TopYard$Spinner.figure(I)I -/
def f_Sp_figure (μ : Mem) (a0 : Nat) (x1 : Int32) : Option (Int32) :=
  if x1 = 0 then (
    some ((gL μ a0 10).toInt32)
  ) else
  if x1 = 1 then (
    some ((gL μ a0 11).toInt32)
  ) else
  if x1 = 2 then (
    some (gI μ a0 14)
  ) else
  if x1 = 3 then (
    some ((gL μ a0 12).toInt32)
  ) else
  if x1 = 4 then (
    some ((gL μ a0 13).toInt32)
  ) else
  if x1 = 5 then (
    some (gI μ a0 15)
  ) else
  if x1 = 6 then (
    some (gI μ a0 16)
  ) else
  (
    some (gI μ a0 17)
  )
/-- TopYard.state(III)I -/
def f_X_state_b36 (N : Nat) (x2 : Int32) (x3 : Int32) (o4 : Option Nat) (xs0 : Int32) (μ : Mem) : Option (Int32 × Mem) :=
  match o4 with
  | none =>
    some ((-2147483648), μ)
  | some e1 =>
    if xs0 = 0 then (
      some ((-2147483648), μ)
    ) else (
      if (2 : Int32) ≤ (gI μ 5 1) then (
        bM2 (f_X_spinBout N μ x2) (fun v2 μ3 =>
          Option.bind (f_Sp_figure μ3 e1 x3) (fun v4 =>
            some (v4, μ3)
          )
        )
      ) else (
        some ((-2147483648), μ)
      )
    )
def f_X_state_b35 (N : Nat) (x2 : Int32) (x3 : Int32) (o4 : Option Nat) (μ : Mem) : Option (Int32 × Mem) :=
  f_X_state_b36 N x2 x3 o4 0 μ
def f_X_state (N : Nat) (μ : Mem) (x1 : Int32) (x2 : Int32) (x3 : Int32) : Option (Int32 × Mem) :=
  Option.bind (f_Bt_at μ 5 x1) (fun u1 =>
    Option.bind (f_X_within x2 0 400) (fun v2 =>
      if v2 = 0 then (
        f_X_state_b35 N x2 x3 u1 μ
      ) else (
        Option.bind (f_X_within x3 0 7) (fun v3 =>
          if v3 = 0 then (
            f_X_state_b35 N x2 x3 u1 μ
          ) else (
            f_X_state_b36 N x2 x3 u1 1 μ
          )
        )
      )
    )
  )
/-- TopYard$Choice.begin()V -/
def f_Ch_begin_l12 (N : Nat) : Nat → Int32 → Mem → Option (Mem)
  | 0, _, _ => none
  | n + 1, x1, μ =>
    if (4 : Int32) ≤ x1 then (
      some μ
    ) else (
      if ib x1 4 then
        Option.bind (f_JA_fill N μ (srX 26 (ix x1)) 0) (fun μ2 =>
          nm (x1 + 1) (fun v3 =>
            (f_Ch_begin_l12 N n) v3 μ2
          )
        )
      else none
    )
def f_Ch_begin (N : Nat) (μ : Mem) : Option (Mem) :=
  nm (sI μ 23 0 0) (fun μ1 =>
    nm (sI μ1 23 1 0) (fun μ2 =>
      f_Ch_begin_l12 N N 0 μ2
    )
  )
/-- TopYard.choose()I -/
def f_X_choose (N : Nat) (μ : Mem) : Option (Int32 × Mem) :=
  nm ((gI μ 23 0) + (gI μ 23 1)) (fun v1 =>
    Option.bind (f_Ch_begin N μ) (fun μ2 =>
      some (v1, μ2)
    )
  )
/-- TopYard$Choice.addRow(I)I -/
def f_Ch_addRow (μ : Mem) (x1 : Int32) : Option (Int32 × Mem) :=
  if (gI μ 23 0) < (4 : Int32) then (
    if ib (gI μ 23 0) 4 then
      nm (sI μ 24 (ix (gI μ 23 0)) x1) (fun μ2 =>
        nm (sI μ2 23 0 ((gI μ2 23 0) + 1)) (fun μ3 =>
          some ((gI μ3 23 0), μ3)
        )
      )
    else none
  ) else (
    some ((-4), μ)
  )
/-- TopYard$Choice.addColumn(I)I -/
def f_Ch_addColumn (μ : Mem) (x1 : Int32) : Option (Int32 × Mem) :=
  if (gI μ 23 1) < (4 : Int32) then (
    if ib (gI μ 23 1) 4 then
      nm (sI μ 25 (ix (gI μ 23 1)) x1) (fun μ2 =>
        nm (sI μ2 23 1 ((gI μ2 23 1) + 1)) (fun μ3 =>
          some ((gI μ3 23 1), μ3)
        )
      )
    else none
  ) else (
    some ((-4), μ)
  )
/-- TopYard.among(II)I -/
def f_X_among (μ : Mem) (x1 : Int32) (x2 : Int32) : Option (Int32 × Mem) :=
  Option.bind (f_X_within x1 0 1) (fun v1 =>
    if v1 = 0 then (
      some ((-2), μ)
    ) else (
      Option.bind (f_X_topAt μ x2) (fun u2 =>
        match u2 with
        | none =>
          some ((-2), μ)
        | some e3 =>
          if ¬ x1 = 0 then (
            bM2 (f_Ch_addColumn μ x2) (fun v4 μ5 =>
              some (v4, μ5)
            )
          ) else (
            bM2 (f_Ch_addRow μ x2) (fun v7 μ8 =>
              some (v7, μ8)
            )
          )
      )
    )
  )
/-- TopYard$Choice.has(II)Z -/
def f_Ch_has (μ : Mem) (x1 : Int32) (x2 : Int32) : Option (Int32) :=
  if x1 < 0 then (
    some 0
  ) else (
    if (gI μ 23 0) ≤ x1 then (
      some 0
    ) else (
      if x2 < 0 then (
        some 0
      ) else (
        if (gI μ 23 1) ≤ x2 then (
          some 0
        ) else (
          some 1
        )
      )
    )
  )
/-- TopYard.pay(III)I -/
def f_X_pay (μ : Mem) (x1 : Int32) (x2 : Int32) (x3 : Int32) : Option (Int32 × Mem) :=
  Option.bind (f_Ch_has μ x1 x2) (fun v1 =>
    if v1 = 0 then (
      some ((-100), μ)
    ) else (
      Option.bind (f_X_within x3 (-9) 9) (fun v2 =>
        if ¬ v2 = 0 then (
          if ib x1 4 then
            if ib x2 4 then
              nm (gI μ (srX 26 (ix x1)) (ix x2)) (fun v5 =>
                if ib x1 4 then
                  if ib x2 4 then
                    nm (sI μ (srX 26 (ix x1)) (ix x2) x3) (fun μ8 =>
                      some (v5, μ8)
                    )
                  else none
                else none
              )
            else none
          else none
        ) else (
          some ((-100), μ)
        )
      )
    )
  )
/-- TopYard.pays(II)I -/
def f_X_pays (μ : Mem) (x1 : Int32) (x2 : Int32) : Option (Int32) :=
  Option.bind (f_Ch_has μ x1 x2) (fun v1 =>
    if v1 = 0 then (
      some (-100)
    ) else (
      if ib x1 4 then
        if ib x2 4 then
          some (gI μ (srX 26 (ix x1)) (ix x2))
        else none
      else none
    )
  )
/-- TopYard$Choice.isOpen()Z -/
def f_Ch_isOpen_b14 (μ : Mem) : Option (Int32) :=
  some 1
def f_Ch_isOpen (μ : Mem) : Option (Int32) :=
  if (gI μ 23 0) = 0 then (
    f_Ch_isOpen_b14 μ
  ) else (
    if ¬ (gI μ 23 1) = 0 then (
      some 0
    ) else (
      f_Ch_isOpen_b14 μ
    )
  )
/-- TopYard$Spinner.fellInRing()Z -/
def f_Sp_fellInRing (μ : Mem) (a0 : Nat) : Option (Int32) :=
  if ¬ (gI μ a0 17) = (3 : Int32) then (
    some 0
  ) else (
    some 1
  )
/-- TopYard.duel(IIII)I -/
def f_X_duel_b171 (N : Nat) (a8 : Nat) (xs0 : Int32) (μ : Mem) : Option (Int32 × Mem) :=
  Option.bind (f_Sp_fellInRing μ a8) (fun v1 =>
    if v1 = 0 then (
      some ((xs0 - 0), μ)
    ) else (
      some ((xs0 - 1), μ)
    )
  )
def f_X_duel (N : Nat) (μ : Mem) (x1 : Int32) (x2 : Int32) (x3 : Int32) (x4 : Int32) : Option (Int32 × Mem) :=
  Option.bind (f_X_topAt μ x1) (fun u1 =>
    Option.bind (f_X_topAt μ x2) (fun u2 =>
      match u1 with
      | none =>
        some (0, μ)
      | some e3 =>
        match u2 with
        | none =>
          some (0, μ)
        | some e4 =>
          if ¬ x1 = x2 then (
            Option.bind (f_Bt_empty μ 14) (fun μ5 =>
              bM2 (f_Bt_addSpinner μ5 14 e3 x1) (fun u6 μ7 =>
                bM2 (f_Bt_addSpinner μ7 14 e4 x2) (fun u8 μ9 =>
                  match u6 with
                  | none =>
                    some (0, μ9)
                  | some e10 =>
                    match u8 with
                    | none =>
                      some (0, μ9)
                    | some e11 =>
                      Option.bind (f_Sp_set μ9 e10 (-((gI μ9 2 0) / 2)) 0 9 x3) (fun μ12 =>
                        Option.bind (f_Sp_set μ12 e11 ((gI μ12 2 0) / 2) 0 27 x3) (fun μ13 =>
                          bM2 (f_Bt_spinUntil N μ13 14 x4 400) (fun v14 μ15 =>
                            Option.bind (f_Bt_lonePlace N μ15 14) (fun v16 =>
                              if v16 = (-1 : Int32) then (
                                Option.bind (f_Sp_fellInRing μ15 e10) (fun v17 =>
                                  if v17 = 0 then (
                                    f_X_duel_b171 N e11 0 μ15
                                  ) else (
                                    f_X_duel_b171 N e11 1 μ15
                                  )
                                )
                              ) else (
                                if ¬ v16 = 0 then (
                                  some ((-1), μ15)
                                ) else (
                                  some (1, μ15)
                                )
                              )
                            )
                          )
                        )
                      )
                )
              )
            )
          ) else (
            some (0, μ)
          )
    )
  )
/-- TopYard.fill()I -/
def f_X_fill_b92 (N : Nat) (k17 : Int32 → Int32 → Mem → Option (Int32 × Mem)) (k30 : Int32 → Int32 → Int32 → Mem → Option (Int32 × Mem)) (x2 : Int32) (x3 : Int32) (xs0 : Int32) (xs1 : Int32) (μ : Mem) : Option (Int32 × Mem) :=
  nm (xs1 + xs0) (fun v1 =>
    nm (x3 + 1) (fun v2 =>
      k30 v1 x2 v2 μ
    )
  )
def f_X_fill_l30 (N : Nat) (k17 : Int32 → Int32 → Mem → Option (Int32 × Mem)) : Nat → Int32 → Int32 → Int32 → Mem → Option (Int32 × Mem)
  | 0, _, _, _, _ => none
  | n + 1, x1, x2, x3, μ =>
    if (gI μ 23 1) ≤ x3 then (
      nm (x2 + 1) (fun v1 =>
        k17 x1 v1 μ
      )
    ) else (
      if ib x2 4 then
        if ib x3 4 then
          bM2 (f_X_duel N μ (gI μ 24 (ix x2)) (gI μ 25 (ix x3)) 30 (-1)) (fun v4 μ5 =>
            if ib x2 4 then
              if ib x3 4 then
                nm (sI μ5 (srX 26 (ix x2)) (ix x3) v4) (fun μ8 =>
                  if ¬ v4 = 0 then (
                    f_X_fill_b92 N k17 (f_X_fill_l30 N k17 n) x2 x3 1 x1 μ8
                  ) else (
                    f_X_fill_b92 N k17 (f_X_fill_l30 N k17 n) x2 x3 0 x1 μ8
                  )
                )
              else none
            else none
          )
        else none
      else none
    )
def f_X_fill_l17 (N : Nat) : Nat → Int32 → Int32 → Mem → Option (Int32 × Mem)
  | 0, _, _, _ => none
  | n + 1, x1, x2, μ =>
    if (gI μ 23 0) ≤ x2 then (
      some (x1, μ)
    ) else (
      f_X_fill_l30 N (f_X_fill_l17 N n) N x1 x2 0 μ
    )
def f_X_fill (N : Nat) (μ : Mem) : Option (Int32 × Mem) :=
  Option.bind (f_Ch_isOpen μ) (fun v1 =>
    if v1 = 0 then (
      f_X_fill_l17 N N 0 0 μ
    ) else (
      some ((-3), μ)
    )
  )
/-- java/lang/Integer.bitCount(I)I -/
def f_JI_bitCount (x0 : Int32) : Option (Int32) :=
  nm (x0 - (((x0.toUInt32 >>> ((1 : Int32).toUInt32 &&& Int32.toUInt32 31)).toInt32) &&& 1431655765)) (fun v1 =>
    nm ((v1 &&& 858993459) + (((v1.toUInt32 >>> ((2 : Int32).toUInt32 &&& Int32.toUInt32 31)).toInt32) &&& 858993459)) (fun v2 =>
      nm ((v2 + (v2.toUInt32 >>> ((4 : Int32).toUInt32 &&& Int32.toUInt32 31)).toInt32) &&& 252645135) (fun v3 =>
        nm (v3 + (v3.toUInt32 >>> ((8 : Int32).toUInt32 &&& Int32.toUInt32 31)).toInt32) (fun v4 =>
          nm (v4 + (v4.toUInt32 >>> ((16 : Int32).toUInt32 &&& Int32.toUInt32 31)).toInt32) (fun v5 =>
            some (v5 &&& 63)
          )
        )
      )
    )
  )
/-- java/lang/Integer.numberOfTrailingZeros(I)I -/
def f_JI_numberOfTrailingZeros_b74 (x0 : Int32) (x1 : Int32) : Option (Int32) :=
  some (x1 + (x0.toUInt32 >>> ((1 : Int32).toUInt32 &&& Int32.toUInt32 31)).toInt32)
def f_JI_numberOfTrailingZeros_b62 (x0 : Int32) (x1 : Int32) : Option (Int32) :=
  if x0 ≤ (4 : Int32) then (
    f_JI_numberOfTrailingZeros_b74 x0 x1
  ) else (
    nm (x1 + 2) (fun v1 =>
      nm ((x0.toUInt32 >>> ((2 : Int32).toUInt32 &&& Int32.toUInt32 31)).toInt32) (fun v2 =>
        f_JI_numberOfTrailingZeros_b74 v2 v1
      )
    )
  )
def f_JI_numberOfTrailingZeros_b49 (x0 : Int32) (x1 : Int32) : Option (Int32) :=
  if x0 ≤ (16 : Int32) then (
    f_JI_numberOfTrailingZeros_b62 x0 x1
  ) else (
    nm (x1 + 4) (fun v1 =>
      nm ((x0.toUInt32 >>> ((4 : Int32).toUInt32 &&& Int32.toUInt32 31)).toInt32) (fun v2 =>
        f_JI_numberOfTrailingZeros_b62 v2 v1
      )
    )
  )
def f_JI_numberOfTrailingZeros_b34 (x0 : Int32) (x1 : Int32) : Option (Int32) :=
  if x0 ≤ (256 : Int32) then (
    f_JI_numberOfTrailingZeros_b49 x0 x1
  ) else (
    nm (x1 + 8) (fun v1 =>
      nm ((x0.toUInt32 >>> ((8 : Int32).toUInt32 &&& Int32.toUInt32 31)).toInt32) (fun v2 =>
        f_JI_numberOfTrailingZeros_b49 v2 v1
      )
    )
  )
def f_JI_numberOfTrailingZeros (x0 : Int32) : Option (Int32) :=
  nm ((x0 ^^^ (-1)) &&& (x0 - 1)) (fun v1 =>
    if 0 < v1 then (
      if v1 ≤ (65536 : Int32) then (
        f_JI_numberOfTrailingZeros_b34 v1 1
      ) else (
        nm ((1 : Int32) + 16) (fun v2 =>
          nm ((v1.toUInt32 >>> ((16 : Int32).toUInt32 &&& Int32.toUInt32 31)).toInt32) (fun v3 =>
            f_JI_numberOfTrailingZeros_b34 v3 v2
          )
        )
      )
    ) else (
      some (v1 &&& 32)
    )
  )
/-- TopYard$Choice.minor(IIII)J -/
def f_Ch_minor (μ : Mem) (x1 : Int32) (x2 : Int32) (x3 : Int32) (x4 : Int32) : Option (Int64) :=
  nm (((x1 &&& (((1 : Int32) <<< (x3 &&& 31)) ^^^ (-1))) * 16) + (x2 &&& (((1 : Int32) <<< (x4 &&& 31)) ^^^ (-1)))) (fun v1 =>
    if v1 < 0 then (
      some 0
    ) else (
      if (Int32.ofNat 256) ≤ v1 then (
        some 0
      ) else (
        if ib v1 256 then
          some (gL μ 33 (ix v1))
        else none
      )
    )
  )
/-- TopYard$Choice.expand(II)J -/
def f_Ch_expand_b70 (N : Nat) (μ : Mem) (k14 : Int32 → Int32 → Int32 → Int64 → Int64 → Int32 → Option (Int64)) (x1 : Int32) (x2 : Int32) (x3 : Int32) (x4 : Int64) (x6 : Int64) (x8 : Int32) : Option (Int64) :=
  nm (x8 + 1) (fun v1 =>
    k14 x1 x2 x3 x4 x6 v1
  )
def f_Ch_expand_l14 (N : Nat) (μ : Mem) : Nat → Int32 → Int32 → Int32 → Int64 → Int64 → Int32 → Option (Int64)
  | 0, _, _, _, _, _, _ => none
  | n + 1, x1, x2, x3, x4, x6, x8 =>
    if (4 : Int32) ≤ x8 then (
      some x4
    ) else (
      if (4 : Int32) ≤ x3 then (
        some x4
      ) else (
        if ((x2 >>> (x8 &&& 31)) &&& 1) = 0 then (
          f_Ch_expand_b70 N μ (f_Ch_expand_l14 N μ n) x1 x2 x3 x4 x6 x8
        ) else (
          if ib x3 4 then
            if ib x8 4 then
              Option.bind (f_Ch_minor μ x1 x2 x3 x8) (fun v3 =>
                nm (x4 + ((x6 * ((gI μ (srX 26 (ix x3)) (ix x8)) + 20).toInt64) * v3)) (fun v4 =>
                  nm (-x6) (fun v5 =>
                    f_Ch_expand_b70 N μ (f_Ch_expand_l14 N μ n) x1 x2 x3 v4 v5 x8
                  )
                )
              )
            else none
          else none
        )
      )
    )
def f_Ch_expand (N : Nat) (μ : Mem) (x1 : Int32) (x2 : Int32) : Option (Int64) :=
  Option.bind (f_JI_numberOfTrailingZeros x1) (fun v1 =>
    f_Ch_expand_l14 N μ N x1 x2 v1 0 1 0
  )
/-- TopYard$Choice.findDeterminants()V -/
def f_Ch_findDeterminants_b51 (N : Nat) (k9 : Int32 → Mem → Option (Mem)) (k17 : Int32 → Int32 → Mem → Option (Mem)) (x1 : Int32) (x2 : Int32) (μ : Mem) : Option (Mem) :=
  nm (x2 + 1) (fun v1 =>
    k17 x1 v1 μ
  )
def f_Ch_findDeterminants_l17 (N : Nat) (k9 : Int32 → Mem → Option (Mem)) : Nat → Int32 → Int32 → Mem → Option (Mem)
  | 0, _, _, _ => none
  | n + 1, x1, x2, μ =>
    if (16 : Int32) ≤ x2 then (
      nm (x1 + 1) (fun v1 =>
        k9 v1 μ
      )
    ) else (
      Option.bind (f_JI_bitCount x1) (fun v2 =>
        Option.bind (f_JI_bitCount x2) (fun v3 =>
          if ¬ v2 = v3 then (
            f_Ch_findDeterminants_b51 N k9 (f_Ch_findDeterminants_l17 N k9 n) x1 x2 μ
          ) else (
            Option.bind (f_Ch_expand N μ x1 x2) (fun v4 =>
              if ib ((x1 * 16) + x2) 256 then
                nm (sL μ 33 (ix ((x1 * 16) + x2)) v4) (fun μ6 =>
                  f_Ch_findDeterminants_b51 N k9 (f_Ch_findDeterminants_l17 N k9 n) x1 x2 μ6
                )
              else none
            )
          )
        )
      )
    )
def f_Ch_findDeterminants_l9 (N : Nat) : Nat → Int32 → Mem → Option (Mem)
  | 0, _, _ => none
  | n + 1, x1, μ =>
    if (16 : Int32) ≤ x1 then (
      some μ
    ) else (
      f_Ch_findDeterminants_l17 N (f_Ch_findDeterminants_l9 N n) N x1 1 μ
    )
def f_Ch_findDeterminants (N : Nat) (μ : Mem) : Option (Mem) :=
  if ib (0 : Int32) 256 then
    nm (sL μ 33 (ix (0 : Int32)) 1) (fun μ2 =>
      f_Ch_findDeterminants_l9 N N 1 μ2
    )
  else none
/-- TopYard$Choice.cofactor(IIII)J -/
def f_Ch_cofactor (μ : Mem) (x1 : Int32) (x2 : Int32) (x3 : Int32) (x4 : Int32) : Option (Int64) :=
  if ((x1 >>> (x3 &&& 31)) &&& 1) = 0 then (
    some 0
  ) else (
    if ¬ ((x2 >>> (x4 &&& 31)) &&& 1) = 0 then (
      Option.bind (f_JI_bitCount (x1 &&& (((1 : Int32) <<< (x3 &&& 31)) - 1))) (fun v1 =>
        Option.bind (f_JI_bitCount (x2 &&& (((1 : Int32) <<< (x4 &&& 31)) - 1))) (fun v2 =>
          Option.bind (f_Ch_minor μ x1 x2 x3 x4) (fun v3 =>
            if ¬ ((v1 + v2) - (v1 + v2) / 2 * 2) = 0 then (
              some (-v3)
            ) else (
              some v3
            )
          )
        )
      )
    ) else (
      some 0
    )
  )
/-- TopYard$Choice.changeSigns()V -/
def f_Ch_changeSigns_l20 (N : Nat) : Nat → Int32 → Mem → Option (Mem)
  | 0, _, _ => none
  | n + 1, x1, μ =>
    if (4 : Int32) ≤ x1 then (
      some μ
    ) else (
      if ib x1 4 then
        if ib x1 4 then
          nm (sL μ 31 (ix x1) (-(gL μ 31 (ix x1)))) (fun μ3 =>
            if ib x1 4 then
              if ib x1 4 then
                nm (sL μ3 32 (ix x1) (-(gL μ3 32 (ix x1)))) (fun μ6 =>
                  nm (x1 + 1) (fun v7 =>
                    (f_Ch_changeSigns_l20 N n) v7 μ6
                  )
                )
              else none
            else none
          )
        else none
      else none
    )
def f_Ch_changeSigns (N : Nat) (μ : Mem) : Option (Mem) :=
  nm (sL μ 23 8 (-(gL μ 23 8))) (fun μ1 =>
    nm (sL μ1 23 9 (-(gL μ1 23 9))) (fun μ2 =>
      f_Ch_changeSigns_l20 N N 0 μ2
    )
  )
/-- TopYard$Choice.noShareIsNegative()Z -/
def f_Ch_noShareIsNegative_l2 (N : Nat) (μ : Mem) : Nat → Int32 → Option (Int32)
  | 0, _ => none
  | n + 1, x1 =>
    if (4 : Int32) ≤ x1 then (
      some 1
    ) else (
      if ib x1 4 then
        if (gL μ 31 (ix x1)) < (0 : Int64) then (
          some 0
        ) else (
          if ib x1 4 then
            if (0 : Int64) ≤ (gL μ 32 (ix x1)) then (
              nm (x1 + 1) (fun v3 =>
                (f_Ch_noShareIsNegative_l2 N μ n) v3
              )
            ) else (
              some 0
            )
          else none
        )
      else none
    )
def f_Ch_noShareIsNegative (N : Nat) (μ : Mem) : Option (Int32) :=
  f_Ch_noShareIsNegative_l2 N μ N 0
/-- TopYard$Choice.holdsForRows()Z -/
def f_Ch_holdsForRows_l15 (N : Nat) (μ : Mem) (k2 : Int32 → Option (Int32)) : Nat → Int32 → Int64 → Int32 → Option (Int32)
  | 0, _, _, _ => none
  | n + 1, x1, x2, x4 =>
    if (gI μ 23 1) ≤ x4 then (
      if x2 ≤ (gL μ 23 9) then (
        nm (x1 + 1) (fun v1 =>
          k2 v1
        )
      ) else (
        some 0
      )
    ) else (
      if ib x1 4 then
        if ib x4 4 then
          if ib x4 4 then
            nm (x2 + ((((gI μ (srX 26 (ix x1)) (ix x4)) + 20).toInt64) * (gL μ 32 (ix x4)))) (fun v5 =>
              nm (x4 + 1) (fun v6 =>
                (f_Ch_holdsForRows_l15 N μ k2 n) x1 v5 v6
              )
            )
          else none
        else none
      else none
    )
def f_Ch_holdsForRows_l2 (N : Nat) (μ : Mem) : Nat → Int32 → Option (Int32)
  | 0, _ => none
  | n + 1, x1 =>
    if (gI μ 23 0) ≤ x1 then (
      some 1
    ) else (
      f_Ch_holdsForRows_l15 N μ (f_Ch_holdsForRows_l2 N μ n) N x1 0 0
    )
def f_Ch_holdsForRows (N : Nat) (μ : Mem) : Option (Int32) :=
  f_Ch_holdsForRows_l2 N μ N 0
/-- TopYard$Choice.holdsForColumns()Z -/
def f_Ch_holdsForColumns_l15 (N : Nat) (μ : Mem) (k2 : Int32 → Option (Int32)) : Nat → Int32 → Int64 → Int32 → Option (Int32)
  | 0, _, _, _ => none
  | n + 1, x1, x2, x4 =>
    if (gI μ 23 0) ≤ x4 then (
      if (gL μ 23 9) ≤ x2 then (
        nm (x1 + 1) (fun v1 =>
          k2 v1
        )
      ) else (
        some 0
      )
    ) else (
      if ib x4 4 then
        if ib x1 4 then
          if ib x4 4 then
            nm (x2 + ((((gI μ (srX 26 (ix x4)) (ix x1)) + 20).toInt64) * (gL μ 31 (ix x4)))) (fun v5 =>
              nm (x4 + 1) (fun v6 =>
                (f_Ch_holdsForColumns_l15 N μ k2 n) x1 v5 v6
              )
            )
          else none
        else none
      else none
    )
def f_Ch_holdsForColumns_l2 (N : Nat) (μ : Mem) : Nat → Int32 → Option (Int32)
  | 0, _ => none
  | n + 1, x1 =>
    if (gI μ 23 1) ≤ x1 then (
      some 1
    ) else (
      f_Ch_holdsForColumns_l15 N μ (f_Ch_holdsForColumns_l2 N μ n) N x1 0 0
    )
def f_Ch_holdsForColumns (N : Nat) (μ : Mem) : Option (Int32) :=
  f_Ch_holdsForColumns_l2 N μ N 0
/-- TopYard$Choice.solveByPart(II)Z -/
def f_Ch_solveByPart_l29 (N : Nat) (k7 : Int32 → Int32 → Int32 → Mem → Option (Int32 × Mem)) : Nat → Int32 → Int32 → Int32 → Int32 → Mem → Option (Int32 × Mem)
  | 0, _, _, _, _, _ => none
  | n + 1, x1, x2, x3, x4, μ =>
    if (4 : Int32) ≤ x4 then (
      if ib x3 4 then
        nm (sL μ 23 8 ((gL μ 23 8) + (gL μ 31 (ix x3)))) (fun μ2 =>
          nm (x3 + 1) (fun v3 =>
            k7 x1 x2 v3 μ2
          )
        )
      else none
    ) else (
      if ib x3 4 then
        Option.bind (f_Ch_cofactor μ x1 x2 x3 x4) (fun v5 =>
          if ib x3 4 then
            nm (sL μ 31 (ix x3) ((gL μ 31 (ix x3)) + v5)) (fun μ7 =>
              if ib x3 4 then
                Option.bind (f_Ch_cofactor μ7 x1 x2 x4 x3) (fun v9 =>
                  if ib x3 4 then
                    nm (sL μ7 32 (ix x3) ((gL μ7 32 (ix x3)) + v9)) (fun μ11 =>
                      nm (x4 + 1) (fun v12 =>
                        (f_Ch_solveByPart_l29 N k7 n) x1 x2 x3 v12 μ11
                      )
                    )
                  else none
                )
              else none
            )
          else none
        )
      else none
    )
def f_Ch_solveByPart_b126 (N : Nat) (μ : Mem) : Option (Int32 × Mem) :=
  if (gL μ 23 8) = (0 : Int64) then (
    some (0, μ)
  ) else (
    Option.bind (f_Ch_noShareIsNegative N μ) (fun v1 =>
      if v1 = 0 then (
        some (0, μ)
      ) else (
        Option.bind (f_Ch_holdsForRows N μ) (fun v2 =>
          if v2 = 0 then (
            some (0, μ)
          ) else (
            Option.bind (f_Ch_holdsForColumns N μ) (fun v3 =>
              if v3 = 0 then (
                some (0, μ)
              ) else (
                some (1, μ)
              )
            )
          )
        )
      )
    )
  )
def f_Ch_solveByPart_l7 (N : Nat) : Nat → Int32 → Int32 → Int32 → Mem → Option (Int32 × Mem)
  | 0, _, _, _, _ => none
  | n + 1, x1, x2, x3, μ =>
    if (4 : Int32) ≤ x3 then (
      if ib ((x1 * 16) + x2) 256 then
        nm (sL μ 23 9 (gL μ 33 (ix ((x1 * 16) + x2)))) (fun μ2 =>
          if (0 : Int64) ≤ (gL μ2 23 8) then (
            f_Ch_solveByPart_b126 N μ2
          ) else (
            Option.bind (f_Ch_changeSigns N μ2) (fun μ3 =>
              f_Ch_solveByPart_b126 N μ3
            )
          )
        )
      else none
    ) else (
      if ib x3 4 then
        nm (sL μ 31 (ix x3) 0) (fun μ6 =>
          if ib x3 4 then
            nm (sL μ6 32 (ix x3) 0) (fun μ8 =>
              f_Ch_solveByPart_l29 N (f_Ch_solveByPart_l7 N n) N x1 x2 x3 0 μ8
            )
          else none
        )
      else none
    )
def f_Ch_solveByPart (N : Nat) (μ : Mem) (x1 : Int32) (x2 : Int32) : Option (Int32 × Mem) :=
  nm (sL μ 23 8 0) (fun μ1 =>
    f_Ch_solveByPart_l7 N N x1 x2 0 μ1
  )
/-- TopYard$Choice.solveBySize(I)Z -/
def f_Ch_solveBySize_b63 (N : Nat) (k2 : Int32 → Int32 → Mem → Option (Int32 × Mem)) (k14 : Int32 → Int32 → Int32 → Mem → Option (Int32 × Mem)) (x1 : Int32) (x2 : Int32) (x3 : Int32) (μ : Mem) : Option (Int32 × Mem) :=
  nm (x3 + 1) (fun v1 =>
    k14 x1 x2 v1 μ
  )
def f_Ch_solveBySize_b45 (N : Nat) (k2 : Int32 → Int32 → Mem → Option (Int32 × Mem)) (k14 : Int32 → Int32 → Int32 → Mem → Option (Int32 × Mem)) (x1 : Int32) (x2 : Int32) (x3 : Int32) (xs0 : Int32) (μ : Mem) : Option (Int32 × Mem) :=
  if xs0 = 0 then (
    f_Ch_solveBySize_b63 N k2 k14 x1 x2 x3 μ
  ) else (
    bM2 (f_Ch_solveByPart N μ x2 x3) (fun v1 μ2 =>
      if v1 = 0 then (
        f_Ch_solveBySize_b63 N k2 k14 x1 x2 x3 μ2
      ) else (
        some (1, μ2)
      )
    )
  )
def f_Ch_solveBySize_b44 (N : Nat) (k2 : Int32 → Int32 → Mem → Option (Int32 × Mem)) (k14 : Int32 → Int32 → Int32 → Mem → Option (Int32 × Mem)) (x1 : Int32) (x2 : Int32) (x3 : Int32) (μ : Mem) : Option (Int32 × Mem) :=
  f_Ch_solveBySize_b45 N k2 k14 x1 x2 x3 0 μ
def f_Ch_solveBySize_l14 (N : Nat) (k2 : Int32 → Int32 → Mem → Option (Int32 × Mem)) : Nat → Int32 → Int32 → Int32 → Mem → Option (Int32 × Mem)
  | 0, _, _, _, _ => none
  | n + 1, x1, x2, x3, μ =>
    if ((1 : Int32) <<< ((gI μ 23 1) &&& 31)) ≤ x3 then (
      nm (x2 + 1) (fun v1 =>
        k2 x1 v1 μ
      )
    ) else (
      Option.bind (f_JI_bitCount x2) (fun v2 =>
        if ¬ v2 = x1 then (
          f_Ch_solveBySize_b44 N k2 (f_Ch_solveBySize_l14 N k2 n) x1 x2 x3 μ
        ) else (
          Option.bind (f_JI_bitCount x3) (fun v3 =>
            if ¬ v3 = x1 then (
              f_Ch_solveBySize_b44 N k2 (f_Ch_solveBySize_l14 N k2 n) x1 x2 x3 μ
            ) else (
              f_Ch_solveBySize_b45 N k2 (f_Ch_solveBySize_l14 N k2 n) x1 x2 x3 1 μ
            )
          )
        )
      )
    )
def f_Ch_solveBySize_l2 (N : Nat) : Nat → Int32 → Int32 → Mem → Option (Int32 × Mem)
  | 0, _, _, _ => none
  | n + 1, x1, x2, μ =>
    if ((1 : Int32) <<< ((gI μ 23 0) &&& 31)) ≤ x2 then (
      some (0, μ)
    ) else (
      f_Ch_solveBySize_l14 N (f_Ch_solveBySize_l2 N n) N x1 x2 1 μ
    )
def f_Ch_solveBySize (N : Nat) (μ : Mem) (x1 : Int32) : Option (Int32 × Mem) :=
  f_Ch_solveBySize_l2 N N x1 1 μ
/-- TopYard$Choice.solve()V -/
def f_Ch_solve_l8 (N : Nat) : Nat → Int32 → Int32 → Mem → Option (Mem)
  | 0, _, _, _ => none
  | n + 1, x1, x2, μ =>
    if (4 : Int32) < x2 then (
      some μ
    ) else (
      if ¬ x1 = 0 then (
        some μ
      ) else (
        bM2 (f_Ch_solveBySize N μ x2) (fun v1 μ2 =>
          nm (x2 + 1) (fun v3 =>
            (f_Ch_solve_l8 N n) v1 v3 μ2
          )
        )
      )
    )
def f_Ch_solve (N : Nat) (μ : Mem) : Option (Mem) :=
  Option.bind (f_Ch_findDeterminants N μ) (fun μ1 =>
    f_Ch_solve_l8 N N 0 1 μ1
  )
/-- TopYard$Choice.inMillionths(J)I -/
def f_Ch_inMillionths (μ : Mem) (x1 : Int64) : Option (Int32) :=
  if ¬ (gL μ 23 8) = (0 : Int64) then (
    Option.bind (f_JM_floorDiv (x1 * 1000000) (gL μ 23 8)) (fun v1 =>
      some (v1.toInt32)
    )
  ) else (
    some 0
  )
/-- TopYard$Choice.valueInMillionths()I -/
def f_Ch_valueInMillionths (μ : Mem) : Option (Int32) :=
  Option.bind (f_Ch_inMillionths μ ((gL μ 23 9) - ((20 : Int64) * (gL μ 23 8)))) (fun v1 =>
    some v1
  )
/-- TopYard.value()I -/
def f_X_value (N : Nat) (μ : Mem) : Option (Int32 × Mem) :=
  Option.bind (f_Ch_isOpen μ) (fun v1 =>
    if v1 = 0 then (
      Option.bind (f_Ch_solve N μ) (fun μ2 =>
        Option.bind (f_Ch_valueInMillionths μ2) (fun v3 =>
          some (v3, μ2)
        )
      )
    ) else (
      some ((-2147483648), μ)
    )
  )
/-- TopYard.mix(II)I -/
def f_X_mix_b97 (N : Nat) (xs0 : Int64) (μ : Mem) : Option (Int32 × Mem) :=
  Option.bind (f_Ch_inMillionths μ xs0) (fun v1 =>
    some (v1, μ)
  )
def f_X_mix_b33 (N : Nat) (x1 : Int32) (x2 : Int32) (xs0 : Int32) (μ : Mem) : Option (Int32 × Mem) :=
  Option.bind (f_X_within x2 0 (xs0 - 1)) (fun v1 =>
    if ¬ v1 = 0 then (
      Option.bind (f_Ch_isOpen μ) (fun v2 =>
        if v2 = 0 then (
          Option.bind (f_Ch_solve N μ) (fun μ3 =>
            if ¬ x1 = 0 then (
              if ib x2 4 then
                f_X_mix_b97 N (gL μ3 32 (ix x2)) μ3
              else none
            ) else (
              if ib x2 4 then
                f_X_mix_b97 N (gL μ3 31 (ix x2)) μ3
              else none
            )
          )
        ) else (
          some ((-3), μ)
        )
      )
    ) else (
      some ((-2), μ)
    )
  )
def f_X_mix (N : Nat) (μ : Mem) (x1 : Int32) (x2 : Int32) : Option (Int32 × Mem) :=
  Option.bind (f_X_within x1 0 1) (fun v1 =>
    if ¬ v1 = 0 then (
      if ¬ x1 = 0 then (
        f_X_mix_b33 N x1 x2 (gI μ 23 1) μ
      ) else (
        f_X_mix_b33 N x1 x2 (gI μ 23 0) μ
      )
    ) else (
      some ((-2), μ)
    )
  )
/-- TopYard.expected(II)I -/
def f_X_expected (N : Nat) (μ : Mem) (x1 : Int32) (x2 : Int32) : Option (Int32 × Mem) :=
  Option.bind (f_X_topAt μ x1) (fun u1 =>
    match u1 with
    | none =>
      some ((-100), μ)
    | some e2 =>
      Option.bind (f_X_topAt μ x2) (fun u3 =>
        match u3 with
        | none =>
          some ((-100), μ)
        | some e4 =>
          bM2 (f_X_duel N μ x1 x2 30 (-1)) (fun v5 μ6 =>
            some (v5, μ6)
          )
      )
  )
/-- TopYard.mayBeRow(III)Z -/
def f_X_mayBeRow (μ : Mem) (x1 : Int32) (x2 : Int32) (x3 : Int32) : Option (Int32) :=
  Option.bind (f_X_topAt μ x1) (fun u1 =>
    match u1 with
    | none =>
      some 0
    | some e2 =>
      Option.bind (f_X_topAt μ x2) (fun u3 =>
        match u3 with
        | none =>
          some 0
        | some e4 =>
          if x1 = x2 then (
            some 0
          ) else (
            Option.bind (f_X_within x3 (-1) 2) (fun v5 =>
              if v5 = 0 then (
                some 0
              ) else (
                some 1
              )
            )
          )
      )
  )
/-- TopYard$Past.add(III)Z -/
def f_Pa_add (μ : Mem) (x1 : Int32) (x2 : Int32) (x3 : Int32) : Option (Int32 × Mem) :=
  if (gI μ 34 0) < (40 : Int32) then (
    if ib (gI μ 34 0) 40 then
      nm (sI μ 35 (ix (gI μ 34 0)) x1) (fun μ2 =>
        if ib (gI μ2 34 0) 40 then
          nm (sI μ2 36 (ix (gI μ2 34 0)) x2) (fun μ4 =>
            if ib (gI μ4 34 0) 40 then
              nm (sI μ4 37 (ix (gI μ4 34 0)) x3) (fun μ6 =>
                nm (sI μ6 34 0 ((gI μ6 34 0) + 1)) (fun μ7 =>
                  some (1, μ7)
                )
              )
            else none
          )
        else none
      )
    else none
  ) else (
    some (0, μ)
  )
/-- TopYard.was(III)I -/
def f_X_was (μ : Mem) (x1 : Int32) (x2 : Int32) (x3 : Int32) : Option (Int32 × Mem) :=
  Option.bind (f_X_mayBeRow μ x1 x2 x3) (fun v1 =>
    if ¬ v1 = 0 then (
      bM2 (f_Pa_add μ x1 x2 x3) (fun v2 μ3 =>
        if v2 = 0 then (
          some ((-4), μ3)
        ) else (
          some ((gI μ3 34 0), μ3)
        )
      )
    ) else (
      some ((-2), μ)
    )
  )
/-- TopYard.forget()I -/
def f_X_forget (μ : Mem) : Option (Int32 × Mem) :=
  nm (gI μ 34 0) (fun v1 =>
    nm (sI μ 34 0 0) (fun μ2 =>
      some (v1, μ2)
    )
  )
/-- TopYard.sheetAt(I)LTopYard$Sheet; -/
def f_X_sheetAt (μ : Mem) (x1 : Int32) : Option (Option Nat) :=
  if x1 < 0 then (
    some none
  ) else (
    if (4 : Int32) ≤ x1 then (
      some none
    ) else (
      if ib x1 4 then
        some (some (srX 47 (ix x1)))
      else none
    )
  )
/-- TopYard.find(I)I -/
def f_X_find (μ : Mem) (x1 : Int32) : Option (Int32 × Mem) :=
  nm (sI μ 0 13 x1) (fun μ1 =>
    some (((-10 : Int32) - x1), μ1)
  )
/-- TopYard$Sheet.item(I)I -/
def f_Sh_item (μ : Mem) (a0 : Nat) (x1 : Int32) : Option (Int32) :=
  if x1 < 0 then (
    some 0
  ) else (
    if (gI μ a0 2) ≤ x1 then (
      some 0
    ) else (
      if ib x1 120 then
        some (gI μ (srX a0 3) (ix x1))
      else none
    )
  )
/-- TopYard.read(I)I -/
def f_X_read_l31 (N : Nat) : Nat → Nat → Int32 → Int32 → Mem → Option (Int32 × Mem)
  | 0, _, _, _, _ => none
  | n + 1, a2, x3, x4, μ =>
    if (gI μ a2 2) ≤ (x4 + 2) then (
      some (x3, μ)
    ) else (
      Option.bind (f_Sh_item μ a2 x4) (fun v1 =>
        Option.bind (f_Sh_item μ a2 (x4 + 1)) (fun v2 =>
          Option.bind (f_Sh_item μ a2 (x4 + 2)) (fun v3 =>
            Option.bind (f_X_mayBeRow μ v1 v2 v3) (fun v4 =>
              if v4 = 0 then (
                some (x3, μ)
              ) else (
                bM2 (f_Pa_add μ v1 v2 v3) (fun v5 μ6 =>
                  if ¬ v5 = 0 then (
                    nm (x3 + 1) (fun v7 =>
                      nm (x4 + 3) (fun v8 =>
                        (f_X_read_l31 N n) a2 v7 v8 μ6
                      )
                    )
                  ) else (
                    some (x3, μ6)
                  )
                )
              )
            )
          )
        )
      )
    )
def f_X_read (N : Nat) (μ : Mem) (x1 : Int32) : Option (Int32 × Mem) :=
  Option.bind (f_X_sheetAt μ x1) (fun u1 =>
    match u1 with
    | none =>
      some ((-2), μ)
    | some e2 =>
      if (gI μ e2 0) = 0 then (
        f_X_read_l31 N N e2 0 0 μ
      ) else (
        bM2 (f_X_find μ 1) (fun v3 μ4 =>
          some (v3, μ4)
        )
      )
  )
/-- TopYard$Past.speaks(II)Z -/
def f_Pa_speaks_b49 (μ : Mem) : Option (Int32) :=
  some 1
def f_Pa_speaks (μ : Mem) (x1 : Int32) (x2 : Int32) : Option (Int32) :=
  if x1 < 0 then (
    some 0
  ) else (
    if (gI μ 34 0) ≤ x1 then (
      some 0
    ) else (
      if ib x1 40 then
        if ¬ (gI μ 37 (ix x1)) = (2 : Int32) then (
          if x2 = (-1 : Int32) then (
            f_Pa_speaks_b49 μ
          ) else (
            if ib x1 40 then
              if (gI μ 35 (ix x1)) = x2 then (
                f_Pa_speaks_b49 μ
              ) else (
                if ib x1 40 then
                  if ¬ (gI μ 36 (ix x1)) = x2 then (
                    some 0
                  ) else (
                    f_Pa_speaks_b49 μ
                  )
                else none
              )
            else none
          )
        ) else (
          some 0
        )
      else none
    )
  )
/-- TopYard$Past.firstLike(I)I -/
def f_Pa_firstLike_b57 (N : Nat) (μ : Mem) (k2 : Int32 → Int32 → Option (Int32)) (x1 : Int32) (x2 : Int32) : Option (Int32) :=
  nm (x2 + 1) (fun v1 =>
    k2 x1 v1
  )
def f_Pa_firstLike_l2 (N : Nat) (μ : Mem) : Nat → Int32 → Int32 → Option (Int32)
  | 0, _, _ => none
  | n + 1, x1, x2 =>
    if x1 ≤ x2 then (
      some x1
    ) else (
      if (gI μ 34 0) ≤ x1 then (
        some x1
      ) else (
        if ib x2 40 then
          if (gI μ 37 (ix x2)) = (2 : Int32) then (
            f_Pa_firstLike_b57 N μ (f_Pa_firstLike_l2 N μ n) x1 x2
          ) else (
            if ib x2 40 then
              if ib x1 40 then
                if ¬ (gI μ 35 (ix x2)) = (gI μ 35 (ix x1)) then (
                  f_Pa_firstLike_b57 N μ (f_Pa_firstLike_l2 N μ n) x1 x2
                ) else (
                  if ib x2 40 then
                    if ib x1 40 then
                      if ¬ (gI μ 36 (ix x2)) = (gI μ 36 (ix x1)) then (
                        f_Pa_firstLike_b57 N μ (f_Pa_firstLike_l2 N μ n) x1 x2
                      ) else (
                        some x2
                      )
                    else none
                  else none
                )
              else none
            else none
          )
        else none
      )
    )
def f_Pa_firstLike (N : Nat) (μ : Mem) (x1 : Int32) : Option (Int32) :=
  f_Pa_firstLike_l2 N μ N x1 0
/-- TopYard.foretellRows(I)V -/
def f_X_foretellRows_b88 (N : Nat) (k2 : Int32 → Int32 → Mem → Option (Mem)) (x1 : Int32) (x2 : Int32) (μ : Mem) : Option (Mem) :=
  nm (x2 + 1) (fun v1 =>
    k2 x1 v1 μ
  )
def f_X_foretellRows_b87 (N : Nat) (k2 : Int32 → Int32 → Mem → Option (Mem)) (x1 : Int32) (x2 : Int32) (xs0 : Int32) (xs1 : Int32) (μ : Mem) : Option (Mem) :=
  if ib xs1 40 then
    nm (sI μ 38 (ix xs1) xs0) (fun μ2 =>
      f_X_foretellRows_b88 N k2 x1 x2 μ2
    )
  else none
def f_X_foretellRows_l2 (N : Nat) : Nat → Int32 → Int32 → Mem → Option (Mem)
  | 0, _, _, _ => none
  | n + 1, x1, x2, μ =>
    if (gI μ 34 0) ≤ x2 then (
      some μ
    ) else (
      Option.bind (f_Pa_speaks μ x2 x1) (fun v1 =>
        if ¬ v1 = 0 then (
          Option.bind (f_Pa_firstLike N μ x2) (fun v2 =>
            if x2 ≤ v2 then (
              if ib x2 40 then
                if ib x2 40 then
                  bM2 (f_X_duel N μ (gI μ 35 (ix x2)) (gI μ 36 (ix x2)) 30 (-1)) (fun v5 μ6 =>
                    f_X_foretellRows_b87 N (f_X_foretellRows_l2 N n) x1 x2 v5 x2 μ6
                  )
                else none
              else none
            ) else (
              if ib v2 40 then
                f_X_foretellRows_b87 N (f_X_foretellRows_l2 N n) x1 x2 (gI μ 38 (ix v2)) x2 μ
              else none
            )
          )
        ) else (
          f_X_foretellRows_b88 N (f_X_foretellRows_l2 N n) x1 x2 μ
        )
      )
    )
def f_X_foretellRows (N : Nat) (μ : Mem) (x1 : Int32) : Option (Mem) :=
  f_X_foretellRows_l2 N N x1 0 μ
/-- TopYard$Past.sided(III)I -/
def f_Pa_sided (μ : Mem) (x1 : Int32) (x2 : Int32) (x3 : Int32) : Option (Int32) :=
  if ib x2 40 then
    if ¬ (gI μ 35 (ix x2)) = x3 then (
      some (-x1)
    ) else (
      some x1
    )
  else none
/-- TopYard$Past.surprises(I)I -/
def f_Pa_surprises_b51 (N : Nat) (μ : Mem) (k4 : Int32 → Int32 → Int32 → Option (Int32)) (x1 : Int32) (x2 : Int32) (x3 : Int32) : Option (Int32) :=
  nm (x3 + 1) (fun v1 =>
    k4 x1 x2 v1
  )
def f_Pa_surprises_l4 (N : Nat) (μ : Mem) : Nat → Int32 → Int32 → Int32 → Option (Int32)
  | 0, _, _, _ => none
  | n + 1, x1, x2, x3 =>
    if (gI μ 34 0) ≤ x3 then (
      some x2
    ) else (
      Option.bind (f_Pa_speaks μ x3 x1) (fun v1 =>
        if v1 = 0 then (
          f_Pa_surprises_b51 N μ (f_Pa_surprises_l4 N μ n) x1 x2 x3
        ) else (
          if ib x3 40 then
            Option.bind (f_Pa_sided μ (gI μ 37 (ix x3)) x3 x1) (fun v3 =>
              if ib x3 40 then
                Option.bind (f_Pa_sided μ (gI μ 38 (ix x3)) x3 x1) (fun v5 =>
                  if v5 ≤ v3 then (
                    f_Pa_surprises_b51 N μ (f_Pa_surprises_l4 N μ n) x1 x2 x3
                  ) else (
                    nm (x2 + 1) (fun v6 =>
                      f_Pa_surprises_b51 N μ (f_Pa_surprises_l4 N μ n) x1 v6 x3
                    )
                  )
                )
              else none
            )
          else none
        )
      )
    )
def f_Pa_surprises (N : Nat) (μ : Mem) (x1 : Int32) : Option (Int32) :=
  f_Pa_surprises_l4 N μ N x1 0 0
/-- TopYard$Past.chances(I)I -/
def f_Pa_chances_b40 (N : Nat) (μ : Mem) (k4 : Int32 → Int32 → Int32 → Option (Int32)) (x1 : Int32) (x2 : Int32) (x3 : Int32) : Option (Int32) :=
  nm (x3 + 1) (fun v1 =>
    k4 x1 x2 v1
  )
def f_Pa_chances_l4 (N : Nat) (μ : Mem) : Nat → Int32 → Int32 → Int32 → Option (Int32)
  | 0, _, _, _ => none
  | n + 1, x1, x2, x3 =>
    if (gI μ 34 0) ≤ x3 then (
      some x2
    ) else (
      Option.bind (f_Pa_speaks μ x3 x1) (fun v1 =>
        if v1 = 0 then (
          f_Pa_chances_b40 N μ (f_Pa_chances_l4 N μ n) x1 x2 x3
        ) else (
          if ib x3 40 then
            Option.bind (f_Pa_sided μ (gI μ 38 (ix x3)) x3 x1) (fun v3 =>
              if v3 ≤ (-1 : Int32) then (
                f_Pa_chances_b40 N μ (f_Pa_chances_l4 N μ n) x1 x2 x3
              ) else (
                nm (x2 + 1) (fun v4 =>
                  f_Pa_chances_b40 N μ (f_Pa_chances_l4 N μ n) x1 v4 x3
                )
              )
            )
          else none
        )
      )
    )
def f_Pa_chances (N : Nat) (μ : Mem) (x1 : Int32) : Option (Int32) :=
  f_Pa_chances_l4 N μ N x1 0 0
/-- TopYard$Past.doubt(I)I -/
def f_Pa_doubt_b41 (N : Nat) (μ : Mem) (k21 : Int32 → Int32 → Int64 → Int64 → Int32 → Option (Int32)) (x2 : Int32) (x3 : Int32) (x6 : Int64) (x8 : Int32) (xs0 : Int64) (xs1 : Int64) : Option (Int32) :=
  nm (xs1 + xs0) (fun v1 =>
    if (x8 + 1).toInt64 = 0 then none else
    nm ((x6 * (x2 - x8).toInt64) / (x8 + 1).toInt64) (fun v2 =>
      nm (x8 + 1) (fun v3 =>
        k21 x2 x3 v1 v2 v3
      )
    )
  )
def f_Pa_doubt_l21 (N : Nat) (μ : Mem) : Nat → Int32 → Int32 → Int64 → Int64 → Int32 → Option (Int32)
  | 0, _, _, _, _, _ => none
  | n + 1, x2, x3, x4, x6, x8 =>
    if x2 < x8 then (
      some (((x4 * 1000000) >>> (x2.toInt64 &&& 63)).toInt32)
    ) else (
      if x8 < x3 then (
        f_Pa_doubt_b41 N μ (f_Pa_doubt_l21 N μ n) x2 x3 x6 x8 0 x4
      ) else (
        f_Pa_doubt_b41 N μ (f_Pa_doubt_l21 N μ n) x2 x3 x6 x8 x6 x4
      )
    )
def f_Pa_doubt (N : Nat) (μ : Mem) (x1 : Int32) : Option (Int32) :=
  Option.bind (f_Pa_chances N μ x1) (fun v1 =>
    Option.bind (f_Pa_surprises N μ x1) (fun v2 =>
      f_Pa_doubt_l21 N μ N v1 v2 0 1 0
    )
  )
/-- TopYard.worn(II)I -/
def f_X_worn (N : Nat) (μ : Mem) (x1 : Int32) (x2 : Int32) : Option (Int32 × Mem) :=
  Option.bind (f_X_topAt μ x1) (fun u1 =>
    match u1 with
    | none =>
      some ((-2), μ)
    | some e2 =>
      Option.bind (f_X_within x2 0 2) (fun v3 =>
        if ¬ v3 = 0 then (
          Option.bind (f_X_foretellRows N μ x1) (fun μ4 =>
            if x2 = 0 then (
              Option.bind (f_Pa_surprises N μ4 x1) (fun v5 =>
                some (v5, μ4)
              )
            ) else
            if x2 = 1 then (
              Option.bind (f_Pa_chances N μ4 x1) (fun v8 =>
                some (v8, μ4)
              )
            ) else
            (
              Option.bind (f_Pa_doubt N μ4 x1) (fun v11 =>
                some (v11, μ4)
              )
            )
          )
        ) else (
          some ((-2), μ)
        )
      )
  )
/-- TopYard.most()I -/
def f_X_most_b55 (N : Nat) (k13 : Int32 → Int32 → Int32 → Mem → Option (Int32 × Mem)) (x1 : Int32) (x2 : Int32) (x3 : Int32) (μ : Mem) : Option (Int32 × Mem) :=
  nm (x3 + 1) (fun v1 =>
    k13 x1 x2 v1 μ
  )
def f_X_most_l13 (N : Nat) : Nat → Int32 → Int32 → Int32 → Mem → Option (Int32 × Mem)
  | 0, _, _, _, _ => none
  | n + 1, x1, x2, x3, μ =>
    if (gI μ 0 1) ≤ x3 then (
      some (x1, μ)
    ) else (
      Option.bind (f_Pa_chances N μ x3) (fun v1 =>
        if v1 ≤ 0 then (
          f_X_most_b55 N (f_X_most_l13 N n) x1 x2 x3 μ
        ) else (
          Option.bind (f_Pa_doubt N μ x3) (fun v2 =>
            if x2 ≤ v2 then (
              f_X_most_b55 N (f_X_most_l13 N n) x1 x2 x3 μ
            ) else (
              Option.bind (f_Pa_doubt N μ x3) (fun v3 =>
                f_X_most_b55 N (f_X_most_l13 N n) x3 v3 x3 μ
              )
            )
          )
        )
      )
    )
def f_X_most (N : Nat) (μ : Mem) : Option (Int32 × Mem) :=
  Option.bind (f_X_foretellRows N μ (-1)) (fun μ1 =>
    f_X_most_l13 N N (-1) 1000001 0 μ1
  )
/-- TopYard$Past.rowsAsTold(I)I -/
def f_Pa_rowsAsTold_b39 (N : Nat) (μ : Mem) (k4 : Int32 → Int32 → Int32 → Option (Int32)) (x1 : Int32) (x2 : Int32) (x3 : Int32) : Option (Int32) :=
  nm (x3 + 1) (fun v1 =>
    k4 x1 x2 v1
  )
def f_Pa_rowsAsTold_l4 (N : Nat) (μ : Mem) : Nat → Int32 → Int32 → Int32 → Option (Int32)
  | 0, _, _, _ => none
  | n + 1, x1, x2, x3 =>
    if (gI μ 34 0) ≤ x3 then (
      some x2
    ) else (
      Option.bind (f_Pa_speaks μ x3 x1) (fun v1 =>
        if v1 = 0 then (
          f_Pa_rowsAsTold_b39 N μ (f_Pa_rowsAsTold_l4 N μ n) x1 x2 x3
        ) else (
          if ib x3 40 then
            if ib x3 40 then
              if ¬ (gI μ 37 (ix x3)) = (gI μ 38 (ix x3)) then (
                f_Pa_rowsAsTold_b39 N μ (f_Pa_rowsAsTold_l4 N μ n) x1 x2 x3
              ) else (
                nm (x2 + 1) (fun v4 =>
                  f_Pa_rowsAsTold_b39 N μ (f_Pa_rowsAsTold_l4 N μ n) x1 v4 x3
                )
              )
            else none
          else none
        )
      )
    )
def f_Pa_rowsAsTold (N : Nat) (μ : Mem) (x1 : Int32) : Option (Int32) :=
  f_Pa_rowsAsTold_l4 N μ N x1 0 0
/-- TopYard.explained(II)I -/
def f_X_explained_b80 (N : Nat) (k37 : Int32 → Int32 → Nat → Int32 → Int32 → Int32 → Int32 → Mem → Option (Int32 × Mem)) (x1 : Int32) (x2 : Int32) (a3 : Nat) (x4 : Int32) (x5 : Int32) (x6 : Int32) (x7 : Int32) (μ : Mem) : Option (Int32 × Mem) :=
  nm (x7 + 1) (fun v1 =>
    k37 x1 x2 a3 x4 x5 x6 v1 μ
  )
def f_X_explained_l37 (N : Nat) : Nat → Int32 → Int32 → Nat → Int32 → Int32 → Int32 → Int32 → Mem → Option (Int32 × Mem)
  | 0, _, _, _, _, _, _, _, _ => none
  | n + 1, x1, x2, a3, x4, x5, x6, x7, μ =>
    if (9 : Int32) < x7 then (
      nm (sI μ a3 5 x4) (fun μ1 =>
        if ¬ x2 = 0 then (
          some (x6, μ1)
        ) else (
          some (x5, μ1)
        )
      )
    ) else (
      nm (sI μ a3 5 x7) (fun μ2 =>
        Option.bind (f_X_foretellRows N μ2 x1) (fun μ3 =>
          Option.bind (f_Pa_rowsAsTold N μ3 x1) (fun v4 =>
            if v4 ≤ x6 then (
              f_X_explained_b80 N (f_X_explained_l37 N n) x1 x2 a3 x4 x5 x6 x7 μ3
            ) else (
              f_X_explained_b80 N (f_X_explained_l37 N n) x1 x2 a3 x4 x7 v4 x7 μ3
            )
          )
        )
      )
    )
def f_X_explained (N : Nat) (μ : Mem) (x1 : Int32) (x2 : Int32) : Option (Int32 × Mem) :=
  Option.bind (f_X_topAt μ x1) (fun u1 =>
    match u1 with
    | none =>
      some ((-2), μ)
    | some e2 =>
      Option.bind (f_X_within x2 0 1) (fun v3 =>
        if ¬ v3 = 0 then (
          nm (gI μ e2 5) (fun v4 =>
            f_X_explained_l37 N N x1 x2 e2 v4 0 (-1) 0 μ
          )
        ) else (
          some ((-2), μ)
        )
      )
  )
/-- TopYard$Game.append(I)Z -/
def f_Ga_append (μ : Mem) (x1 : Int32) : Option (Int32 × Mem) :=
  if (gI μ 39 0) < (40 : Int32) then (
    if ib (gI μ 39 0) 40 then
      nm (sI μ 40 (ix (gI μ 39 0)) x1) (fun μ2 =>
        nm (sI μ2 39 0 ((gI μ2 39 0) + 1)) (fun μ3 =>
          some (1, μ3)
        )
      )
    else none
  ) else (
    some (0, μ)
  )
/-- TopYard.type(I)I -/
def f_X_type (μ : Mem) (x1 : Int32) : Option (Int32 × Mem) :=
  Option.bind (f_X_within x1 0 255) (fun v1 =>
    if ¬ v1 = 0 then (
      bM2 (f_Ga_append μ x1) (fun v2 μ3 =>
        if v2 = 0 then (
          some ((-4), μ3)
        ) else (
          some ((gI μ3 39 0), μ3)
        )
      )
    ) else (
      some ((-2), μ)
    )
  )
/-- TopYard.wipe()I -/
def f_X_wipe (μ : Mem) : Option (Int32 × Mem) :=
  nm (gI μ 39 0) (fun v1 =>
    nm (sI μ 39 0 0) (fun μ2 =>
      some (v1, μ2)
    )
  )
/-- TopYard$Game.byteAt(I)I -/
def f_Ga_byteAt (μ : Mem) (x1 : Int32) : Option (Int32) :=
  if x1 < 0 then (
    some (-1)
  ) else (
    if (gI μ 39 0) ≤ x1 then (
      some (-1)
    ) else (
      if (40 : Int32) ≤ x1 then (
        some (-1)
      ) else (
        if ib x1 40 then
          some (gI μ 40 (ix x1))
        else none
      )
    )
  )
/-- TopYard$Game.letterAt(I)I -/
def f_Ga_letterAt_l2 (N : Nat) (μ : Mem) : Nat → Int32 → Int32 → Option (Int32)
  | 0, _, _ => none
  | n + 1, x1, x2 =>
    if (5 : Int32) ≤ x2 then (
      some (-1)
    ) else (
      Option.bind (f_Ga_byteAt μ x1) (fun v1 =>
        if ib x2 5 then
          if ¬ v1 = (([119, 98, 114, 116, 107] : List Int32).getD (ix x2) 0) then (
            nm (x2 + 1) (fun v3 =>
              (f_Ga_letterAt_l2 N μ n) x1 v3
            )
          ) else (
            some x2
          )
        else none
      )
    )
def f_Ga_letterAt (N : Nat) (μ : Mem) (x1 : Int32) : Option (Int32) :=
  f_Ga_letterAt_l2 N μ N x1 0
/-- TopYard$Game.isFigure(I)Z -/
def f_Ga_isFigure (x0 : Int32) : Option (Int32) :=
  if x0 < (48 : Int32) then (
    some 0
  ) else (
    if (57 : Int32) < x0 then (
      some 0
    ) else (
      some 1
    )
  )
/-- TopYard$Game.figuresAt(I)I -/
def f_Ga_figuresAt (μ : Mem) (x1 : Int32) : Option (Int32) :=
  Option.bind (f_Ga_byteAt μ x1) (fun v1 =>
    Option.bind (f_Ga_isFigure v1) (fun v2 =>
      if ¬ v2 = 0 then (
        Option.bind (f_Ga_byteAt μ (x1 + 1)) (fun v3 =>
          Option.bind (f_Ga_isFigure v3) (fun v4 =>
            if v4 = 0 then (
              some 1
            ) else (
              some 2
            )
          )
        )
      ) else (
        some 0
      )
    )
  )
/-- TopYard$Game.numberAt(II)I -/
def f_Ga_numberAt_l5 (N : Nat) (μ : Mem) : Nat → Int32 → Int32 → Int32 → Int32 → Option (Int32)
  | 0, _, _, _, _ => none
  | n + 1, x1, x2, x3, x4 =>
    if x2 ≤ x4 then (
      some x3
    ) else (
      Option.bind (f_Ga_byteAt μ (x1 + x4)) (fun v1 =>
        nm ((((10 : Int32) * x3) + v1) - 48) (fun v2 =>
          nm (x4 + 1) (fun v3 =>
            (f_Ga_numberAt_l5 N μ n) x1 x2 v2 v3
          )
        )
      )
    )
def f_Ga_numberAt (N : Nat) (μ : Mem) (x1 : Int32) (x2 : Int32) : Option (Int32) :=
  f_Ga_numberAt_l5 N μ N x1 x2 0 0
/-- TopYard$Game.parse()I -/
def f_Ga_parse_l19 (N : Nat) : Nat → Int32 → Int32 → Int32 → Mem → Option (Int32 × Mem)
  | 0, _, _, _, _ => none
  | n + 1, x1, x2, x3, μ =>
    if (5 : Int32) < x3 then (
      some (x2, μ)
    ) else (
      Option.bind (f_Ga_letterAt N μ x2) (fun v1 =>
        if v1 = (-1 : Int32) then (
          some (x2, μ)
        ) else (
          if ((x1 >>> (v1 &&& 31)) &&& 1) = 0 then (
            nm (x1 ||| ((1 : Int32) <<< (v1 &&& 31))) (fun v2 =>
              Option.bind (f_Ga_figuresAt μ (x2 + 1)) (fun v3 =>
                Option.bind (f_Ga_numberAt N μ (x2 + 1) v3) (fun v4 =>
                  if v3 = 0 then (
                    some ((x2 + 1), μ)
                  ) else (
                    if ib v1 5 then
                      if v4 < (([1, 1, 0, 1, 0] : List Int32).getD (ix v1) 0) then (
                        some ((x2 + 1), μ)
                      ) else (
                        if ib v1 5 then
                          if v4 ≤ (([9, 20, 30, 60, 3] : List Int32).getD (ix v1) 0) then (
                            if ib v1 5 then
                              nm (sI μ 41 (ix v1) v4) (fun μ8 =>
                                nm (x2 + ((1 : Int32) + v3)) (fun v9 =>
                                  if v9 < (gI μ8 39 0) then (
                                    Option.bind (f_Ga_byteAt μ8 v9) (fun v10 =>
                                      if v10 = (59 : Int32) then (
                                        nm (v9 + 1) (fun v11 =>
                                          nm (x3 + 1) (fun v12 =>
                                            (f_Ga_parse_l19 N n) v2 v11 v12 μ8
                                          )
                                        )
                                      ) else (
                                        some (v9, μ8)
                                      )
                                    )
                                  ) else (
                                    some ((-1), μ8)
                                  )
                                )
                              )
                            else none
                          ) else (
                            some ((x2 + 1), μ)
                          )
                        else none
                      )
                    else none
                  )
                )
              )
            )
          ) else (
            some (x2, μ)
          )
        )
      )
    )
def f_Ga_parse (N : Nat) (μ : Mem) : Option (Int32 × Mem) :=
  if ¬ (0 : Int32) < 0 ∧ ¬ (0 : Int32) < 0 ∧ ¬ (5 : Int32) < 0 ∧ ix (0 : Int32) + ix (5 : Int32) ≤ 5 ∧ ix (0 : Int32) + ix (5 : Int32) ≤ 5 then
    nm (sA μ 41 (va_cpy (fun i => ([1, 5, -1, 30, 0] : List Int32).getD i 0) (gI μ 41) (ix (0 : Int32)) (ix (0 : Int32)) (ix (5 : Int32)))) (fun μ2 =>
      f_Ga_parse_l19 N N 0 0 0 μ2
    )
  else none
/-- TopYard.fault()I -/
def f_X_fault (N : Nat) (μ : Mem) : Option (Int32 × Mem) :=
  bM2 (f_Ga_parse N μ) (fun v1 μ2 =>
    some (v1, μ2)
  )
/-- TopYard.isTopOf(II)Z -/
def f_X_isTopOf (μ : Mem) (x1 : Int32) (x2 : Int32) : Option (Int32) :=
  Option.bind (f_X_topAt μ x1) (fun u1 =>
    match u1 with
    | none =>
      some 0
    | some e2 =>
      if ¬ (gI μ e2 4) = x2 then (
        some 0
      ) else (
        some 1
      )
  )
/-- TopYard.topsOf(I)I -/
def f_X_topsOf_b27 (N : Nat) (μ : Mem) (k4 : Int32 → Int32 → Int32 → Option (Int32)) (x1 : Int32) (x3 : Int32) (xs0 : Int32) (xs1 : Int32) : Option (Int32) :=
  nm (xs1 + xs0) (fun v1 =>
    nm (x3 + 1) (fun v2 =>
      k4 x1 v1 v2
    )
  )
def f_X_topsOf_l4 (N : Nat) (μ : Mem) : Nat → Int32 → Int32 → Int32 → Option (Int32)
  | 0, _, _, _ => none
  | n + 1, x1, x2, x3 =>
    if (gI μ 0 1) ≤ x3 then (
      some x2
    ) else (
      Option.bind (f_X_isTopOf μ x3 x1) (fun v1 =>
        if v1 = 0 then (
          f_X_topsOf_b27 N μ (f_X_topsOf_l4 N μ n) x1 x3 0 x2
        ) else (
          f_X_topsOf_b27 N μ (f_X_topsOf_l4 N μ n) x1 x3 1 x2
        )
      )
    )
def f_X_topsOf (N : Nat) (μ : Mem) (x1 : Int32) : Option (Int32) :=
  f_X_topsOf_l4 N μ N x1 0 0
/-- TopYard$Game.mostBouts()I -/
def f_Ga_mostBouts (μ : Mem) : Option (Int32) :=
  if ib (1 : Int32) 5 then
    some (gI μ 41 (ix (1 : Int32)))
  else none
/-- TopYard$Game.winsNeeded()I -/
def f_Ga_winsNeeded (μ : Mem) : Option (Int32) :=
  if ib (0 : Int32) 5 then
    some (gI μ 41 (ix (0 : Int32)))
  else none
/-- TopYard.nthTopOf(II)I -/
def f_X_nthTopOf_b34 (N : Nat) (μ : Mem) (k5 : Int32 → Int32 → Int32 → Option (Int32)) (x1 : Int32) (x3 : Int32) (x4 : Int32) : Option (Int32) :=
  nm (x4 + 1) (fun v1 =>
    k5 x1 x3 v1
  )
def f_X_nthTopOf_l5 (N : Nat) (μ : Mem) : Nat → Int32 → Int32 → Int32 → Option (Int32)
  | 0, _, _, _ => none
  | n + 1, x1, x3, x4 =>
    if (gI μ 0 1) ≤ x4 then (
      some (-1)
    ) else (
      Option.bind (f_X_isTopOf μ x4 x1) (fun v1 =>
        if v1 = 0 then (
          f_X_nthTopOf_b34 N μ (f_X_nthTopOf_l5 N μ n) x1 x3 x4
        ) else (
          if ¬ x3 = 0 then (
            nm (x3 + (-1)) (fun v2 =>
              f_X_nthTopOf_b34 N μ (f_X_nthTopOf_l5 N μ n) x1 v2 x4
            )
          ) else (
            some x4
          )
        )
      )
    )
def f_X_nthTopOf (N : Nat) (μ : Mem) (x1 : Int32) (x2 : Int32) : Option (Int32) :=
  f_X_nthTopOf_l5 N μ N x1 x2 0
/-- TopYard$Game.turns()I -/
def f_Ga_turns (μ : Mem) : Option (Int32) :=
  if ib (3 : Int32) 5 then
    some (gI μ 41 (ix (3 : Int32)))
  else none
/-- TopYard$Game.ring()I -/
def f_Ga_ring (μ : Mem) : Option (Int32) :=
  if ib (2 : Int32) 5 then
    some (gI μ 41 (ix (2 : Int32)))
  else none
/-- TopYard.playBouts(II)V -/
def f_X_playBouts_b132 (N : Nat) (k30 : Int32 → Int32 → Int32 → Int32 → Int32 → Int32 → Int32 → Mem → Option (Mem)) (x1 : Int32) (x2 : Int32) (x3 : Int32) (x4 : Int32) (x5 : Int32) (x7 : Int32) (xs0 : Int32) (xs1 : Int32) (μ : Mem) : Option (Mem) :=
  nm (xs1 + xs0) (fun v1 =>
    if ib x1 8 then
      Option.bind (f_JM_max1 0 ((gI μ 4 (ix x1)) - 1)) (fun v3 =>
        if ib x1 8 then
          nm (sI μ 4 (ix x1) v3) (fun μ5 =>
            if ib x2 8 then
              Option.bind (f_JM_max1 0 ((gI μ5 4 (ix x2)) - 1)) (fun v7 =>
                if ib x2 8 then
                  nm (sI μ5 4 (ix x2) v7) (fun μ9 =>
                    nm (x7 + 1) (fun v10 =>
                      k30 x1 x2 x3 x4 x5 v1 v10 μ9
                    )
                  )
                else none
              )
            else none
          )
        else none
      )
    else none
  )
def f_X_playBouts_b117 (N : Nat) (k30 : Int32 → Int32 → Int32 → Int32 → Int32 → Int32 → Int32 → Mem → Option (Mem)) (x1 : Int32) (x2 : Int32) (x3 : Int32) (x4 : Int32) (x6 : Int32) (x7 : Int32) (x8 : Int32) (xs0 : Int32) (xs1 : Int32) (μ : Mem) : Option (Mem) :=
  nm (xs1 + xs0) (fun v1 =>
    if 0 ≤ x8 then (
      f_X_playBouts_b132 N k30 x1 x2 x3 x4 v1 x7 0 x6 μ
    ) else (
      f_X_playBouts_b132 N k30 x1 x2 x3 x4 v1 x7 1 x6 μ
    )
  )
def f_X_playBouts_b177 (N : Nat) (x5 : Int32) (x6 : Int32) (x7 : Int32) (μ : Mem) : Option (Mem) :=
  if ib (0 : Int32) 4 then
    nm (sI μ 42 (ix (0 : Int32)) x7) (fun μ2 =>
      if ib (1 : Int32) 4 then
        nm (sI μ2 42 (ix (1 : Int32)) x5) (fun μ4 =>
          if ib (2 : Int32) 4 then
            nm (sI μ4 42 (ix (2 : Int32)) x6) (fun μ6 =>
              some μ6
            )
          else none
        )
      else none
    )
  else none
def f_X_playBouts_l30 (N : Nat) : Nat → Int32 → Int32 → Int32 → Int32 → Int32 → Int32 → Int32 → Mem → Option (Mem)
  | 0, _, _, _, _, _, _, _, _ => none
  | n + 1, x1, x2, x3, x4, x5, x6, x7, μ =>
    Option.bind (f_Ga_mostBouts μ) (fun v1 =>
      if v1 ≤ x7 then (
        f_X_playBouts_b177 N x5 x6 x7 μ
      ) else (
        Option.bind (f_Ga_winsNeeded μ) (fun v2 =>
          if v2 ≤ x5 then (
            f_X_playBouts_b177 N x5 x6 x7 μ
          ) else (
            Option.bind (f_Ga_winsNeeded μ) (fun v3 =>
              if v3 ≤ x6 then (
                f_X_playBouts_b177 N x5 x6 x7 μ
              ) else (
                if x3 = 0 then none else
                Option.bind (f_X_nthTopOf N μ x1 (x7 - x7 / x3 * x3)) (fun v4 =>
                  if x4 = 0 then none else
                  Option.bind (f_X_nthTopOf N μ x2 (x7 - x7 / x4 * x4)) (fun v5 =>
                    Option.bind (f_Ga_turns μ) (fun v6 =>
                      Option.bind (f_Ga_ring μ) (fun v7 =>
                        bM2 (f_X_duel N μ v4 v5 v6 v7) (fun v8 μ9 =>
                          if v8 ≤ 0 then (
                            f_X_playBouts_b117 N (f_X_playBouts_l30 N n) x1 x2 x3 x4 x6 x7 v8 0 x5 μ9
                          ) else (
                            f_X_playBouts_b117 N (f_X_playBouts_l30 N n) x1 x2 x3 x4 x6 x7 v8 1 x5 μ9
                          )
                        )
                      )
                    )
                  )
                )
              )
            )
          )
        )
      )
    )
def f_X_playBouts (N : Nat) (μ : Mem) (x1 : Int32) (x2 : Int32) : Option (Mem) :=
  Option.bind (f_X_topsOf N μ x1) (fun v1 =>
    Option.bind (f_JM_max1 1 v1) (fun v2 =>
      Option.bind (f_X_topsOf N μ x2) (fun v3 =>
        Option.bind (f_JM_max1 1 v3) (fun v4 =>
          f_X_playBouts_l30 N N x1 x2 v2 v4 0 0 0 μ
        )
      )
    )
  )
/-- TopYard$Game.keeps()I -/
def f_Ga_keeps (μ : Mem) : Option (Int32) :=
  if ib (4 : Int32) 5 then
    some (gI μ 41 (ix (4 : Int32)))
  else none
/-- TopYard.keepTops(II)I -/
def f_X_keepTops_b56 (N : Nat) (k5 : Int32 → Int32 → Int32 → Int32 → Mem → Option (Int32 × Mem)) (x1 : Int32) (x2 : Int32) (x3 : Int32) (x4 : Int32) (μ : Mem) : Option (Int32 × Mem) :=
  nm (x4 + 1) (fun v1 =>
    k5 x1 x2 x3 v1 μ
  )
def f_X_keepTops_l5 (N : Nat) : Nat → Int32 → Int32 → Int32 → Int32 → Mem → Option (Int32 × Mem)
  | 0, _, _, _, _, _ => none
  | n + 1, x1, x2, x3, x4, μ =>
    if (gI μ 0 1) ≤ x4 then (
      some (x3, μ)
    ) else (
      Option.bind (f_Ga_keeps μ) (fun v1 =>
        if v1 ≤ x3 then (
          some (x3, μ)
        ) else (
          Option.bind (f_X_topAt μ x4) (fun u2 =>
            match u2 with
            | none =>
              f_X_keepTops_b56 N (f_X_keepTops_l5 N n) x1 x2 x3 x4 μ
            | some e3 =>
              if ¬ (gI μ e3 4) = x2 then (
                f_X_keepTops_b56 N (f_X_keepTops_l5 N n) x1 x2 x3 x4 μ
              ) else (
                nm (sI μ e3 4 x1) (fun μ4 =>
                  nm (x3 + 1) (fun v5 =>
                    f_X_keepTops_b56 N (f_X_keepTops_l5 N n) x1 x2 v5 x4 μ4
                  )
                )
              )
          )
        )
      )
    )
def f_X_keepTops (N : Nat) (μ : Mem) (x1 : Int32) (x2 : Int32) : Option (Int32 × Mem) :=
  f_X_keepTops_l5 N N x1 x2 0 0 μ
/-- TopYard.play(II)I -/
def f_X_play_b150 (N : Nat) (x3 : Int32) (xs0 : Int32) (xs1 : Int32) (xs3 : Int32) (μ : Mem) : Option (Int32 × Mem) :=
  bM2 (f_X_keepTops N μ xs1 xs0) (fun v1 μ2 =>
    if ib xs3 4 then
      nm (sI μ2 42 (ix xs3) v1) (fun μ4 =>
        some (x3, μ4)
      )
    else none
  )
def f_X_play_b132 (N : Nat) (x1 : Int32) (x2 : Int32) (xs0 : Int32) (μ : Mem) : Option (Int32 × Mem) :=
  if ¬ xs0 = x1 then (
    f_X_play_b150 N xs0 x1 xs0 3 μ
  ) else (
    f_X_play_b150 N xs0 x2 xs0 3 μ
  )
def f_X_play (N : Nat) (μ : Mem) (x1 : Int32) (x2 : Int32) : Option (Int32 × Mem) :=
  Option.bind (f_X_isOwner x1) (fun v1 =>
    if v1 = 0 then (
      some ((-2), μ)
    ) else (
      Option.bind (f_X_isOwner x2) (fun v2 =>
        if v2 = 0 then (
          some ((-2), μ)
        ) else (
          if ¬ x1 = x2 then (
            bM2 (f_Ga_parse N μ) (fun v3 μ4 =>
              if ¬ v3 = (-1 : Int32) then (
                some ((-3), μ4)
              ) else (
                Option.bind (f_X_topsOf N μ4 x1) (fun v5 =>
                  if v5 = 0 then (
                    some ((-3), μ4)
                  ) else (
                    Option.bind (f_X_topsOf N μ4 x2) (fun v6 =>
                      if ¬ v6 = 0 then (
                        Option.bind (f_X_playBouts N μ4 x1 x2) (fun μ7 =>
                          if ib ((x1 * 8) + x2) 64 then
                            if ib ((x1 * 8) + x2) 64 then
                              nm (sI μ7 43 (ix ((x1 * 8) + x2)) ((gI μ7 43 (ix ((x1 * 8) + x2))) + 1)) (fun μ10 =>
                                if ib ((x2 * 8) + x1) 64 then
                                  if ib ((x2 * 8) + x1) 64 then
                                    nm (sI μ10 43 (ix ((x2 * 8) + x1)) ((gI μ10 43 (ix ((x2 * 8) + x1))) + 1)) (fun μ13 =>
                                      if ib (3 : Int32) 4 then
                                        nm (sI μ13 42 (ix (3 : Int32)) 0) (fun μ15 =>
                                          if ib (1 : Int32) 4 then
                                            if ib (2 : Int32) 4 then
                                              if ¬ (gI μ15 42 (ix (1 : Int32))) = (gI μ15 42 (ix (2 : Int32))) then (
                                                if ib (1 : Int32) 4 then
                                                  if ib (2 : Int32) 4 then
                                                    if (gI μ15 42 (ix (1 : Int32))) ≤ (gI μ15 42 (ix (2 : Int32))) then (
                                                      f_X_play_b132 N x1 x2 x2 μ15
                                                    ) else (
                                                      f_X_play_b132 N x1 x2 x1 μ15
                                                    )
                                                  else none
                                                else none
                                              ) else (
                                                some ((-1), μ15)
                                              )
                                            else none
                                          else none
                                        )
                                      else none
                                    )
                                  else none
                                else none
                              )
                            else none
                          else none
                        )
                      ) else (
                        some ((-3), μ4)
                      )
                    )
                  )
                )
              )
            )
          ) else (
            some ((-2), μ)
          )
        )
      )
    )
  )
/-- TopYard.played(I)I -/
def f_X_played (μ : Mem) (x1 : Int32) : Option (Int32) :=
  Option.bind (f_X_within x1 0 3) (fun v1 =>
    if v1 = 0 then (
      some (-2)
    ) else (
      if ib x1 4 then
        some (gI μ 42 (ix x1))
      else none
    )
  )
/-- TopYard.met(II)I -/
def f_X_met (μ : Mem) (x1 : Int32) (x2 : Int32) : Option (Int32) :=
  Option.bind (f_X_isOwner x1) (fun v1 =>
    if v1 = 0 then (
      some (-2)
    ) else (
      Option.bind (f_X_isOwner x2) (fun v2 =>
        if v2 = 0 then (
          some (-2)
        ) else (
          if ¬ x1 = x2 then (
            if ib ((x1 * 8) + x2) 64 then
              some (gI μ 43 (ix ((x1 * 8) + x2)))
            else none
          ) else (
            some (-2)
          )
        )
      )
    )
  )
/-- TopYard.costOfPair([III)J -/
def f_X_costOfPair (μ : Mem) (x1 : Int32) (x2 : Int32) : Option (Int64) :=
  Option.bind (f_X_isOwner x1) (fun v1 =>
    if v1 = 0 then (
      some 0
    ) else (
      Option.bind (f_X_isOwner x2) (fun v2 =>
        if ¬ v2 = 0 then (
          if ib ((x1 * 8) + x2) 64 then
            nm (((gI μ 43 (ix ((x1 * 8) + x2))).toInt64) + 1) (fun v4 =>
              some (v4 * v4)
            )
          else none
        ) else (
          some 0
        )
      )
    )
  )
/-- java/lang/Math.max(JJ)J -/
def f_JM_max2 (x0 : Int64) (x2 : Int64) : Option (Int64) :=
  if x0 < x2 then (
    some x2
  ) else (
    some x0
  )
/-- TopYard.leastCost([III)J -/
def f_X_leastCost_b98 (rc : Int32 → Int32 → Option (Int64)) (N : Nat) (μ : Mem) (k25 : Int32 → Int32 → Int32 → Int64 → Int32 → Option (Int64)) (x1 : Int32) (x2 : Int32) (x3 : Int32) (x4 : Int64) (x6 : Int32) : Option (Int64) :=
  nm (x6 + 1) (fun v1 =>
    k25 x1 x2 x3 x4 v1
  )
def f_X_leastCost_b96 (rc : Int32 → Int32 → Option (Int64)) (N : Nat) (μ : Mem) (k25 : Int32 → Int32 → Int32 → Int64 → Int32 → Option (Int64)) (x1 : Int32) (x2 : Int32) (x3 : Int32) (x6 : Int32) (xs0 : Int64) : Option (Int64) :=
  f_X_leastCost_b98 rc N μ k25 x1 x2 x3 xs0 x6
def f_X_leastCost_b89 (rc : Int32 → Int32 → Option (Int64)) (N : Nat) (μ : Mem) (k25 : Int32 → Int32 → Int32 → Int64 → Int32 → Option (Int64)) (x1 : Int32) (x2 : Int32) (x3 : Int32) (x6 : Int32) (x8 : Int64) : Option (Int64) :=
  f_X_leastCost_b96 rc N μ k25 x1 x2 x3 x6 x8
def f_X_leastCost_l25 (rc : Int32 → Int32 → Option (Int64)) (N : Nat) (μ : Mem) : Nat → Int32 → Int32 → Int32 → Int64 → Int32 → Option (Int64)
  | 0, _, _, _, _, _ => none
  | n + 1, x1, x2, x3, x4, x6 =>
    if (8 : Int32) ≤ x6 then (
      Option.bind (f_JM_max2 0 x4) (fun v1 =>
        some v1
      )
    ) else (
      if ((x1 >>> (x6 &&& 31)) &&& 1) = 0 then (
        f_X_leastCost_b98 rc N μ (f_X_leastCost_l25 rc N μ n) x1 x2 x3 x4 x6
      ) else (
        nm (x1 &&& ((((1 : Int32) <<< (x3 &&& 31)) ||| ((1 : Int32) <<< (x6 &&& 31))) ^^^ (-1))) (fun v3 =>
          Option.bind (f_X_costOfPair μ x3 x6) (fun v4 =>
            Option.bind (rc v3 (x2 - 1)) (fun v5 =>
              nm (v4 + v5) (fun v6 =>
                if x4 < (0 : Int64) then (
                  f_X_leastCost_b89 rc N μ (f_X_leastCost_l25 rc N μ n) x1 x2 x3 x6 v6
                ) else (
                  if x4 ≤ v6 then (
                    f_X_leastCost_b96 rc N μ (f_X_leastCost_l25 rc N μ n) x1 x2 x3 x6 x4
                  ) else (
                    f_X_leastCost_b89 rc N μ (f_X_leastCost_l25 rc N μ n) x1 x2 x3 x6 v6
                  )
                )
              )
            )
          )
        )
      )
    )
def f_X_leastCost_o (rc : Int32 → Int32 → Option (Int64)) (N : Nat) (μ : Mem) (x1 : Int32) (x2 : Int32) : Option (Int64) :=
  if x1 = 0 then (
    some 0
  ) else (
    if 0 < x2 then (
      Option.bind (f_JI_numberOfTrailingZeros x1) (fun v1 =>
        nm (v1 + 1) (fun v2 =>
          f_X_leastCost_l25 rc N μ N x1 x2 v1 (-1) v2
        )
      )
    ) else (
      some 0
    )
  )
def f_X_leastCost : Nat → Nat → Mem → Int32 → Int32 → Option (Int64)
  | 0, _, _, _, _ => none
  | d + 1, N, μ, x1, x2 => f_X_leastCost_o (f_X_leastCost d N μ) N μ x1 x2
/-- TopYard.bestMate(III)I -/
def f_X_bestMate_b88 (N : Nat) (μ : Mem) (k11 : Int32 → Int32 → Int32 → Int32 → Int64 → Int32 → Option (Int32)) (x1 : Int32) (x2 : Int32) (x3 : Int32) (x4 : Int32) (x5 : Int64) (x7 : Int32) : Option (Int32) :=
  nm (x7 + 1) (fun v1 =>
    k11 x1 x2 x3 x4 x5 v1
  )
def f_X_bestMate_b80 (N : Nat) (μ : Mem) (k11 : Int32 → Int32 → Int32 → Int32 → Int64 → Int32 → Option (Int32)) (x1 : Int32) (x2 : Int32) (x3 : Int32) (x7 : Int32) (x9 : Int64) : Option (Int32) :=
  f_X_bestMate_b88 N μ k11 x1 x2 x3 x7 x9 x7
def f_X_bestMate_l11 (N : Nat) (μ : Mem) : Nat → Int32 → Int32 → Int32 → Int32 → Int64 → Int32 → Option (Int32)
  | 0, _, _, _, _, _, _ => none
  | n + 1, x1, x2, x3, x4, x5, x7 =>
    if (8 : Int32) ≤ x7 then (
      some x4
    ) else (
      if ((x1 >>> (x7 &&& 31)) &&& 1) = 0 then (
        f_X_bestMate_b88 N μ (f_X_bestMate_l11 N μ n) x1 x2 x3 x4 x5 x7
      ) else (
        nm (x1 &&& ((((1 : Int32) <<< (x2 &&& 31)) ||| ((1 : Int32) <<< (x7 &&& 31))) ^^^ (-1))) (fun v1 =>
          Option.bind (f_X_costOfPair μ x2 x7) (fun v2 =>
            Option.bind (f_X_leastCost 8 N μ v1 (x3 - 1)) (fun v3 =>
              nm (v2 + v3) (fun v4 =>
                if x4 = (-1 : Int32) then (
                  f_X_bestMate_b80 N μ (f_X_bestMate_l11 N μ n) x1 x2 x3 x7 v4
                ) else (
                  if x5 ≤ v4 then (
                    f_X_bestMate_b88 N μ (f_X_bestMate_l11 N μ n) x1 x2 x3 x4 x5 x7
                  ) else (
                    f_X_bestMate_b80 N μ (f_X_bestMate_l11 N μ n) x1 x2 x3 x7 v4
                  )
                )
              )
            )
          )
        )
      )
    )
def f_X_bestMate (N : Nat) (μ : Mem) (x1 : Int32) (x2 : Int32) (x3 : Int32) : Option (Int32) :=
  nm (x2 + 1) (fun v1 =>
    f_X_bestMate_l11 N μ N x1 x2 x3 (-1) 0 v1
  )
/-- TopYard.mateInPairing(II)I -/
def f_X_mateInPairing_l5 (N : Nat) (μ : Mem) : Nat → Int32 → Int32 → Int32 → Option (Int32)
  | 0, _, _, _ => none
  | n + 1, x2, x3, x4 =>
    if x4 ≤ 0 then (
      some (-1)
    ) else (
      if x3 = 0 then (
        some (-1)
      ) else (
        Option.bind (f_JI_numberOfTrailingZeros x3) (fun v1 =>
          Option.bind (f_X_bestMate N μ x3 v1 x4) (fun v2 =>
            if ¬ v2 = (-1 : Int32) then (
              if ¬ x2 = v1 then (
                if ¬ x2 = v2 then (
                  nm (x3 &&& ((((1 : Int32) <<< (v1 &&& 31)) ||| ((1 : Int32) <<< (v2 &&& 31))) ^^^ (-1))) (fun v3 =>
                    nm (x4 + (-1)) (fun v4 =>
                      (f_X_mateInPairing_l5 N μ n) x2 v3 v4
                    )
                  )
                ) else (
                  some v1
                )
              ) else (
                some v2
              )
            ) else (
              some (-1)
            )
          )
        )
      )
    )
def f_X_mateInPairing (N : Nat) (μ : Mem) (x1 : Int32) (x2 : Int32) : Option (Int32) :=
  f_X_mateInPairing_l5 N μ N x2 x1 4
/-- TopYard.pairing(II)I -/
def f_X_pairing (N : Nat) (μ : Mem) (x1 : Int32) (x2 : Int32) : Option (Int32) :=
  Option.bind (f_X_within x1 1 255) (fun v1 =>
    if v1 = 0 then (
      some (-2)
    ) else (
      Option.bind (f_JI_bitCount x1) (fun v2 =>
        if (v2 - v2 / 2 * 2) = 0 then (
          Option.bind (f_X_isOwner x2) (fun v3 =>
            if v3 = 0 then (
              some (-2)
            ) else (
              if ¬ ((x1 >>> (x2 &&& 31)) &&& 1) = 0 then (
                Option.bind (f_X_mateInPairing N μ x1 x2) (fun v4 =>
                  some v4
                )
              ) else (
                some (-2)
              )
            )
          )
        ) else (
          some (-2)
        )
      )
    )
  )
/-- TopYard$Pack.begin(I)V -/
def f_Pk_begin (N : Nat) (μ : Mem) (x1 : Int32) : Option (Mem) :=
  Option.bind (f_JM_min x1 500) (fun v1 =>
    Option.bind (f_JM_max1 0 v1) (fun v2 =>
      nm (sI μ 44 2 v2) (fun μ3 =>
        nm (sI μ3 44 3 0) (fun μ4 =>
          Option.bind (f_JA_fill N μ4 45 (-2147483648)) (fun μ5 =>
            Option.bind (f_JA_fill N μ5 46 0) (fun μ6 =>
              if ib (0 : Int32) 501 then
                nm (sI μ6 45 (ix (0 : Int32)) 0) (fun μ8 =>
                  some μ8
                )
              else none
            )
          )
        )
      )
    )
  )
/-- TopYard$Top.worth()I -/
def f_To_worth (μ : Mem) (a0 : Nat) : Option (Int32) :=
  some (((((gI μ a0 1) * 3) + 10) - (gI μ a0 2)) - (gI μ a0 5))
/-- TopYard$Pack.offer(II)V -/
def f_Pk_offer_b85 (N : Nat) (k19 : Int32 → Int32 → Int32 → Mem → Option (Mem)) (x1 : Int32) (x2 : Int32) (x3 : Int32) (μ : Mem) : Option (Mem) :=
  nm (x3 + (-1)) (fun v1 =>
    k19 x1 x2 v1 μ
  )
def f_Pk_offer_l19 (N : Nat) : Nat → Int32 → Int32 → Int32 → Mem → Option (Mem)
  | 0, _, _, _, _ => none
  | n + 1, x1, x2, x3, μ =>
    if x3 < x1 then (
      nm (sI μ 44 3 ((gI μ 44 3) + 1)) (fun μ1 =>
        some μ1
      )
    ) else (
      if ib (x3 - x1) 501 then
        nm (gI μ 45 (ix (x3 - x1))) (fun v3 =>
          if v3 = (-2147483648 : Int32) then (
            f_Pk_offer_b85 N (f_Pk_offer_l19 N n) x1 x2 x3 μ
          ) else (
            if ib x3 501 then
              if (v3 + x2) ≤ (gI μ 45 (ix x3)) then (
                f_Pk_offer_b85 N (f_Pk_offer_l19 N n) x1 x2 x3 μ
              ) else (
                if ib x3 501 then
                  nm (sI μ 45 (ix x3) (v3 + x2)) (fun μ6 =>
                    if ib (x3 - x1) 501 then
                      if ib x3 501 then
                        nm (sI μ6 46 (ix x3) ((gI μ6 46 (ix (x3 - x1))) ||| ((1 : Int32) <<< ((gI μ6 44 3) &&& 31)))) (fun μ9 =>
                          f_Pk_offer_b85 N (f_Pk_offer_l19 N n) x1 x2 x3 μ9
                        )
                      else none
                    else none
                  )
                else none
              )
            else none
          )
        )
      else none
    )
def f_Pk_offer (N : Nat) (μ : Mem) (x1 : Int32) (x2 : Int32) : Option (Mem) :=
  if (16 : Int32) ≤ (gI μ 44 3) then (
    some μ
  ) else (
    if 0 < x1 then (
      nm (gI μ 44 2) (fun v1 =>
        f_Pk_offer_l19 N N x1 x2 v1 μ
      )
    ) else (
      some μ
    )
  )
/-- TopYard$Pack.bestWeight()I -/
def f_Pk_bestWeight_b32 (N : Nat) (μ : Mem) (k4 : Int32 → Int32 → Option (Int32)) (x2 : Int32) (xs0 : Int32) : Option (Int32) :=
  nm (x2 + 1) (fun v1 =>
    k4 xs0 v1
  )
def f_Pk_bestWeight_l4 (N : Nat) (μ : Mem) : Nat → Int32 → Int32 → Option (Int32)
  | 0, _, _ => none
  | n + 1, x1, x2 =>
    if (gI μ 44 2) < x2 then (
      some x1
    ) else (
      if ib x2 501 then
        if ib x1 501 then
          if (gI μ 45 (ix x2)) ≤ (gI μ 45 (ix x1)) then (
            f_Pk_bestWeight_b32 N μ (f_Pk_bestWeight_l4 N μ n) x2 x1
          ) else (
            f_Pk_bestWeight_b32 N μ (f_Pk_bestWeight_l4 N μ n) x2 x2
          )
        else none
      else none
    )
def f_Pk_bestWeight (N : Nat) (μ : Mem) : Option (Int32) :=
  f_Pk_bestWeight_l4 N μ N 0 1
/-- TopYard.bag(III)I -/
def f_X_bag_b89 (N : Nat) (k41 : Int32 → Int32 → Int32 → Mem → Option (Int32 × Mem)) (x1 : Int32) (x3 : Int32) (x4 : Int32) (μ : Mem) : Option (Int32 × Mem) :=
  nm (x4 + 1) (fun v1 =>
    k41 x1 x3 v1 μ
  )
def f_X_bag_l41 (N : Nat) : Nat → Int32 → Int32 → Int32 → Mem → Option (Int32 × Mem)
  | 0, _, _, _, _ => none
  | n + 1, x1, x3, x4, μ =>
    if (gI μ 0 1) ≤ x4 then (
      Option.bind (f_Pk_bestWeight N μ) (fun v1 =>
        if x3 = 0 then (
          if ib v1 501 then
            some ((gI μ 46 (ix v1)), μ)
          else none
        ) else
        if x3 = 1 then (
          if ib v1 501 then
            some ((gI μ 45 (ix v1)), μ)
          else none
        ) else
        (
          some (v1, μ)
        )
      )
    ) else (
      Option.bind (f_X_topAt μ x4) (fun u7 =>
        match u7 with
        | none =>
          f_X_bag_b89 N (f_X_bag_l41 N n) x1 x3 x4 μ
        | some e8 =>
          if ¬ (gI μ e8 4) = x1 then (
            f_X_bag_b89 N (f_X_bag_l41 N n) x1 x3 x4 μ
          ) else (
            Option.bind (f_To_worth μ e8) (fun v9 =>
              Option.bind (f_Pk_offer N μ (gI μ e8 0) v9) (fun μ10 =>
                f_X_bag_b89 N (f_X_bag_l41 N n) x1 x3 x4 μ10
              )
            )
          )
      )
    )
def f_X_bag (N : Nat) (μ : Mem) (x1 : Int32) (x2 : Int32) (x3 : Int32) : Option (Int32 × Mem) :=
  Option.bind (f_X_isOwner x1) (fun v1 =>
    if v1 = 0 then (
      some ((-2), μ)
    ) else (
      Option.bind (f_X_within x2 1 500) (fun v2 =>
        if v2 = 0 then (
          some ((-2), μ)
        ) else (
          Option.bind (f_X_within x3 0 2) (fun v3 =>
            if ¬ v3 = 0 then (
              Option.bind (f_Pk_begin N μ x2) (fun μ4 =>
                f_X_bag_l41 N N x1 x3 0 μ4
              )
            ) else (
              some ((-2), μ)
            )
          )
        )
      )
    )
  )
/-- TopYard$Sheet.isForm(I)Z -/
def f_Sh_isForm (x0 : Int32) : Option (Int32) :=
  if x0 < 0 then (
    some 0
  ) else (
    if (2 : Int32) < x0 then (
      some 0
    ) else (
      some 1
    )
  )
/-- TopYard$Sheet.begin(II)V -/
def f_Sh_begin (N : Nat) (μ : Mem) (a0 : Nat) (x1 : Int32) (x2 : Int32) : Option (Mem) :=
  nm (sI μ a0 0 0) (fun μ1 =>
    nm (sI μ1 a0 1 x1) (fun μ2 =>
      Option.bind (f_JM_min x2 120) (fun v3 =>
        Option.bind (f_JM_max1 0 v3) (fun v4 =>
          nm (sI μ2 a0 2 v4) (fun μ5 =>
            Option.bind (f_JA_fill N μ5 (srX a0 3) 0) (fun μ6 =>
              some μ6
            )
          )
        )
      )
    )
  )
/-- TopYard.sheet(III)I -/
def f_X_sheet (N : Nat) (μ : Mem) (x1 : Int32) (x2 : Int32) (x3 : Int32) : Option (Int32 × Mem) :=
  Option.bind (f_X_sheetAt μ x1) (fun u1 =>
    match u1 with
    | none =>
      some ((-2), μ)
    | some e2 =>
      Option.bind (f_Sh_isForm x2) (fun v3 =>
        if v3 = 0 then (
          some ((-2), μ)
        ) else (
          if x3 ≤ (120 : Int32) then (
            if 0 ≤ x3 then (
              Option.bind (f_Sh_begin N μ e2 x2 x3) (fun μ4 =>
                some (x3, μ4)
              )
            ) else (
              bM2 (f_X_find μ 5) (fun v6 μ7 =>
                some (v6, μ7)
              )
            )
          ) else (
            some ((-2), μ)
          )
        )
      )
  )
/-- TopYard.lose(I)I -/
def f_X_lose (μ : Mem) (x1 : Int32) : Option (Int32 × Mem) :=
  Option.bind (f_X_sheetAt μ x1) (fun u1 =>
    match u1 with
    | none =>
      some ((-2), μ)
    | some e2 =>
      if (gI μ e2 0) = 0 then (
        nm (sI μ e2 0 1) (fun μ3 =>
          some ((gI μ3 e2 2), μ3)
        )
      ) else (
        bM2 (f_X_find μ 1) (fun v4 μ5 =>
          some (v4, μ5)
        )
      )
  )
/-- TopYard$Sheet.findingAt(II)I -/
def f_Sh_findingAt (μ : Mem) (a0 : Nat) (x1 : Int32) (x2 : Int32) : Option (Int32) :=
  if (gI μ a0 0) = 0 then (
    if x1 = (gI μ a0 1) then (
      if x2 < 0 then (
        some 2
      ) else (
        if (gI μ a0 2) ≤ x2 then (
          some 2
        ) else (
          some 0
        )
      )
    ) else (
      some 3
    )
  ) else (
    some 1
  )
/-- TopYard$Sheet.narrowed(I)I -/
def f_Sh_narrowed (μ : Mem) (a0 : Nat) (x1 : Int32) : Option (Int32) :=
  if (gI μ a0 1) = 0 then (
    some (x1.toInt8.toInt32)
  ) else
  if (gI μ a0 1) = 1 then (
    some (x1.toInt16.toInt32)
  ) else
  (
    some x1
  )
/-- TopYard$Sheet.store(II)V -/
def f_Sh_store (μ : Mem) (a0 : Nat) (x1 : Int32) (x2 : Int32) : Option (Mem) :=
  if x1 < 0 then (
    some μ
  ) else (
    if (gI μ a0 2) ≤ x1 then (
      some μ
    ) else (
      Option.bind (f_Sh_narrowed μ a0 x2) (fun v1 =>
        if ib x1 120 then
          nm (sI μ (srX a0 3) (ix x1) v1) (fun μ3 =>
            some μ3
          )
        else none
      )
    )
  )
/-- TopYard.put(IIII)I -/
def f_X_put (μ : Mem) (x1 : Int32) (x2 : Int32) (x3 : Int32) (x4 : Int32) : Option (Int32 × Mem) :=
  Option.bind (f_X_sheetAt μ x1) (fun u1 =>
    match u1 with
    | none =>
      some ((-2), μ)
    | some e2 =>
      Option.bind (f_Sh_isForm x2) (fun v3 =>
        if ¬ v3 = 0 then (
          Option.bind (f_Sh_findingAt μ e2 x2 x3) (fun v4 =>
            if v4 = 0 then (
              Option.bind (f_Sh_store μ e2 x3 x4) (fun μ5 =>
                some (1, μ5)
              )
            ) else (
              bM2 (f_X_find μ v4) (fun v7 μ8 =>
                some (v7, μ8)
              )
            )
          )
        ) else (
          some ((-2), μ)
        )
      )
  )
/-- TopYard.get(III)I -/
def f_X_get (μ : Mem) (x1 : Int32) (x2 : Int32) (x3 : Int32) : Option (Int32 × Mem) :=
  Option.bind (f_X_sheetAt μ x1) (fun u1 =>
    match u1 with
    | none =>
      some ((-2147483648), μ)
    | some e2 =>
      Option.bind (f_Sh_isForm x2) (fun v3 =>
        if ¬ v3 = 0 then (
          Option.bind (f_Sh_findingAt μ e2 x2 x3) (fun v4 =>
            if v4 = 0 then (
              Option.bind (f_Sh_item μ e2 x3) (fun v5 =>
                some (v5, μ)
              )
            ) else (
              bM2 (f_X_find μ v4) (fun v7 μ8 =>
                some ((-2147483648), μ8)
              )
            )
          )
        ) else (
          some ((-2147483648), μ)
        )
      )
  )
/-- TopYard$Sheet.spans(II)Z -/
def f_Sh_spans (μ : Mem) (a0 : Nat) (x1 : Int32) (x2 : Int32) : Option (Int32) :=
  if x1 < 0 then (
    some 0
  ) else (
    if x2 < 0 then (
      some 0
    ) else (
      if ((gI μ a0 2).toInt64) < ((x1.toInt64) + x2.toInt64) then (
        some 0
      ) else (
        some 1
      )
    )
  )
/-- TopYard.copy(IIIII)I -/
def f_X_copy_b43 (μ : Mem) : Option (Int32 × Mem) :=
  bM2 (f_X_find μ 1) (fun v1 μ2 =>
    some (v1, μ2)
  )
def f_X_copy_b91 (μ : Mem) : Option (Int32 × Mem) :=
  bM2 (f_X_find μ 2) (fun v1 μ2 =>
    some (v1, μ2)
  )
def f_X_copy (μ : Mem) (x1 : Int32) (x2 : Int32) (x3 : Int32) (x4 : Int32) (x5 : Int32) : Option (Int32 × Mem) :=
  Option.bind (f_X_sheetAt μ x1) (fun u1 =>
    Option.bind (f_X_sheetAt μ x3) (fun u2 =>
      match u1 with
      | none =>
        some ((-2), μ)
      | some e3 =>
        match u2 with
        | none =>
          some ((-2), μ)
        | some e4 =>
          if ¬ (gI μ e3 0) = 0 then (
            f_X_copy_b43 μ
          ) else (
            if (gI μ e4 0) = 0 then (
              if (gI μ e3 1) = (gI μ e4 1) then (
                Option.bind (f_Sh_spans μ e3 x2 x5) (fun v5 =>
                  if v5 = 0 then (
                    f_X_copy_b91 μ
                  ) else (
                    Option.bind (f_Sh_spans μ e4 x4 x5) (fun v6 =>
                      if ¬ v6 = 0 then (
                        if ¬ x2 < 0 ∧ ¬ x4 < 0 ∧ ¬ x5 < 0 ∧ ix x2 + ix x5 ≤ 120 ∧ ix x4 + ix x5 ≤ 120 then
                          nm (sA μ (srX e4 3) (va_cpy (gI μ (srX e3 3)) (gI μ (srX e4 3)) (ix x2) (ix x4) (ix x5))) (fun μ8 =>
                            some (1, μ8)
                          )
                        else none
                      ) else (
                        f_X_copy_b91 μ
                      )
                    )
                  )
                )
              ) else (
                bM2 (f_X_find μ 4) (fun v11 μ12 =>
                  some (v11, μ12)
                )
              )
            ) else (
              f_X_copy_b43 μ
            )
          )
    )
  )
/-- TopYard.write(II)I -/
def f_X_write_b122 (N : Nat) (k79 : Nat → Int32 → Int32 → Mem → Option (Int32 × Mem)) (a3 : Nat) (x4 : Int32) (x5 : Int32) (xs0 : Int32) (xs1 : Int32) (as2 : Nat) (μ : Mem) : Option (Int32 × Mem) :=
  Option.bind (f_Sh_store μ as2 xs1 xs0) (fun μ1 =>
    nm (x5 + 1) (fun v2 =>
      k79 a3 x4 v2 μ1
    )
  )
def f_X_write_l79 (N : Nat) : Nat → Nat → Int32 → Int32 → Mem → Option (Int32 × Mem)
  | 0, _, _, _, _ => none
  | n + 1, a3, x4, x5, μ =>
    if x4 ≤ x5 then (
      some (x4, μ)
    ) else (
      Option.bind (f_Bt_at μ 5 (x5 / 8)) (fun u1 =>
        match u1 with
        | none =>
          f_X_write_b122 N (f_X_write_l79 N n) a3 x4 x5 0 x5 a3 μ
        | some e2 =>
          Option.bind (f_Sp_figure μ e2 (x5 - x5 / 8 * 8)) (fun v3 =>
            f_X_write_b122 N (f_X_write_l79 N n) a3 x4 x5 v3 x5 a3 μ
          )
      )
    )
def f_X_write (N : Nat) (μ : Mem) (x1 : Int32) (x2 : Int32) : Option (Int32 × Mem) :=
  Option.bind (f_X_sheetAt μ x1) (fun u1 =>
    match u1 with
    | none =>
      some ((-2), μ)
    | some e2 =>
      Option.bind (f_X_within x2 0 400) (fun v3 =>
        if ¬ v3 = 0 then (
          if (gI μ e2 0) = 0 then (
            if (2 : Int32) ≤ (gI μ 5 1) then (
              bM2 (f_X_spinBout N μ x2) (fun v4 μ5 =>
                Option.bind (f_JM_min ((8 : Int32) * (gI μ5 5 1)) (gI μ5 e2 2)) (fun v6 =>
                  f_X_write_l79 N N e2 v6 0 μ5
                )
              )
            ) else (
              some ((-3), μ)
            )
          ) else (
            bM2 (f_X_find μ 1) (fun v9 μ10 =>
              some (v9, μ10)
            )
          )
        ) else (
          some ((-2), μ)
        )
      )
  )
/-- TopYard.count(I)I -/
def f_X_count (μ : Mem) (x1 : Int32) : Option (Int32) :=
  if x1 = 0 then (
    some (gI μ 0 1)
  ) else
  if x1 = 1 then (
    some (gI μ 2 2)
  ) else
  if x1 = 2 then (
    some (gI μ 5 1)
  ) else
  if x1 = 3 then (
    some (gI μ 5 5)
  ) else
  if x1 = 4 then (
    some (gI μ 23 0)
  ) else
  if x1 = 5 then (
    some (gI μ 23 1)
  ) else
  if x1 = 6 then (
    some (gI μ 34 0)
  ) else
  if x1 = 7 then (
    some (gI μ 39 0)
  ) else
  if x1 = 8 then (
    some (gI μ 0 13)
  ) else
  if x1 = 9 then (
    some (gI μ 2 0)
  ) else
  if x1 = 10 then (
    some (gI μ 2 1)
  ) else
  (
    some (-2)
  )
/-- TopYard.digest()J -/
def f_X_digest_b34 (N : Nat) (k6 : Int64 → Int32 → Mem → Option (Int64 × Mem)) (x3 : Int32) (xs0 : Int64) (μ : Mem) : Option (Int64 × Mem) :=
  nm (x3 + 1) (fun v1 =>
    k6 xs0 v1 μ
  )
def f_X_digest_l162 (N : Nat) (k151 : Int64 → Int32 → Mem → Option (Int64 × Mem)) : Nat → Int64 → Int32 → Int32 → Mem → Option (Int64 × Mem)
  | 0, _, _, _, _ => none
  | n + 1, x1, x3, x4, μ =>
    if (8 : Int32) ≤ x4 then (
      nm (x3 + 1) (fun v1 =>
        k151 x1 v1 μ
      )
    ) else (
      if ib ((x3 * 8) + x4) 64 then
        nm (((31 : Int64) * x1) + (gI μ 43 (ix ((x3 * 8) + x4))).toInt64) (fun v3 =>
          nm (x4 + 1) (fun v4 =>
            (f_X_digest_l162 N k151 n) v3 x3 v4 μ
          )
        )
      else none
    )
def f_X_digest_l151 (N : Nat) : Nat → Int64 → Int32 → Mem → Option (Int64 × Mem)
  | 0, _, _, _ => none
  | n + 1, x1, x3, μ =>
    if (8 : Int32) ≤ x3 then (
      some (x1, μ)
    ) else (
      nm (x3 + 1) (fun v1 =>
        f_X_digest_l162 N (f_X_digest_l151 N n) N x1 x3 v1 μ
      )
    )
def f_X_digest_l87 (N : Nat) : Nat → Int64 → Int32 → Mem → Option (Int64 × Mem)
  | 0, _, _, _ => none
  | n + 1, x1, x3, μ =>
    if (8 : Int32) ≤ x3 then (
      bM2 (f_X_run N μ) (fun v1 μ2 =>
        nm (((31 : Int64) * x1) + v1.toInt64) (fun v3 =>
          bM2 (f_X_winner N μ2) (fun v4 μ5 =>
            nm (((31 : Int64) * v3) + v4.toInt64) (fun v6 =>
              bM2 (f_X_value N μ5) (fun v7 μ8 =>
                nm (((31 : Int64) * v6) + v7.toInt64) (fun v9 =>
                  f_X_digest_l151 N N v9 0 μ8
                )
              )
            )
          )
        )
      )
    ) else (
      if ib x3 8 then
        nm (((31 : Int64) * x1) + (gI μ 4 (ix x3)).toInt64) (fun v14 =>
          nm (x3 + 1) (fun v15 =>
            (f_X_digest_l87 N n) v14 v15 μ
          )
        )
      else none
    )
def f_X_digest_l43 (N : Nat) : Nat → Int64 → Int32 → Mem → Option (Int64 × Mem)
  | 0, _, _, _ => none
  | n + 1, x1, x3, μ =>
    if (gI μ 0 1) ≤ x3 then (
      f_X_digest_l87 N N x1 0 μ
    ) else (
      Option.bind (f_X_about μ x3 4) (fun v1 =>
        nm (((31 : Int64) * x1) + v1.toInt64) (fun v2 =>
          Option.bind (f_X_about μ x3 5) (fun v3 =>
            nm (((31 : Int64) * v2) + v3.toInt64) (fun v4 =>
              nm (x3 + 1) (fun v5 =>
                (f_X_digest_l43 N n) v4 v5 μ
              )
            )
          )
        )
      )
    )
def f_X_digest_l6 (N : Nat) : Nat → Int64 → Int32 → Mem → Option (Int64 × Mem)
  | 0, _, _, _ => none
  | n + 1, x1, x3, μ =>
    if (10 : Int32) < x3 then (
      f_X_digest_l43 N N x1 0 μ
    ) else (
      if ¬ x3 = (8 : Int32) then (
        Option.bind (f_X_count μ x3) (fun v1 =>
          f_X_digest_b34 N (f_X_digest_l6 N n) x3 (((31 : Int64) * x1) + v1.toInt64) μ
        )
      ) else (
        f_X_digest_b34 N (f_X_digest_l6 N n) x3 x1 μ
      )
    )
def f_X_digest (N : Nat) (μ : Mem) : Option (Int64 × Mem) :=
  f_X_digest_l6 N N 17 0 μ

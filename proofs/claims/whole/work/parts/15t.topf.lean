/-! TopYard.top: the one method that makes a cell after the constructors -/
def f_To_init (a : Nat) (μ : Mem) (x1 x2 x3 x4 x5 : Int32) : Option Mem :=
  nm (sI μ a 5 0) (fun μ1 => nm (sI μ1 a 0 x1) (fun μ2 => nm (sI μ2 a 1 x2) (fun μ3 => nm (sI μ3 a 2 x3) (fun μ4 => nm (sI μ4 a 3 x4) (fun μ5 => nm (sI μ5 a 4 x5) (fun μ6 => some μ6))))))
def f_X_top_b65 (n : Nat) (μ : Mem) (x1 x2 x3 x4 x5 : Int32) : Option (Int32 × Nat × Mem) :=
  if (gI μ 0 1) < 40 then (
    if ib (gI μ 0 1) 40 then
      nm (zer μ n) (fun μ1 =>
        Option.bind (f_To_init n μ1 x1 x2 x3 x4 x5) (fun μ2 =>
          nm (sR μ2 1 (ix (gI μ 0 1)) (some n)) (fun μ3 =>
            nm (sI μ3 0 1 ((gI μ3 0 1) + 1)) (fun μ4 =>
              some ((gI μ4 0 1) - 1, n + 1, μ4)))))
    else none
  ) else some (-4, n, μ)
def f_X_top_b54 (n : Nat) (μ : Mem) (x1 x2 x3 x4 x5 : Int32) : Option (Int32 × Nat × Mem) :=
  Option.bind (f_X_isOwner x5) (fun v => if ¬ v = 0 then f_X_top_b65 n μ x1 x2 x3 x4 x5 else some (-2, n, μ))
def f_X_top_b35 (n : Nat) (μ : Mem) (x1 x2 x3 x4 x5 s : Int32) : Option (Int32 × Nat × Mem) :=
  if s = 0 then some (-2, n, μ) else (if x4 = 1 then f_X_top_b54 n μ x1 x2 x3 x4 x5 else (if ¬ x4 = -1 then some (-2, n, μ) else f_X_top_b54 n μ x1 x2 x3 x4 x5))
def f_X_top (n : Nat) (μ : Mem) (x1 x2 x3 x4 x5 : Int32) : Option (Int32 × Nat × Mem) :=
  Option.bind (f_X_within x1 1 50) (fun v1 => if v1 = 0 then f_X_top_b35 n μ x1 x2 x3 x4 x5 0 else
    Option.bind (f_X_within x2 1 12) (fun v2 => if v2 = 0 then f_X_top_b35 n μ x1 x2 x3 x4 x5 0 else
      Option.bind (f_X_within x3 1 9) (fun v3 => if v3 = 0 then f_X_top_b35 n μ x1 x2 x3 x4 x5 0 else f_X_top_b35 n μ x1 x2 x3 x4 x5 1)))

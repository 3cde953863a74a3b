/-! The memory of one world: ints, longs and references by cell and place. -/
abbrev Mem : Type := (Nat → Nat → Int32) × (Nat → Nat → Int64) × (Nat → Nat → Option Nat)
def gI (μ : Mem) (a k : Nat) : Int32 := μ.1 a k
def gL (μ : Mem) (a k : Nat) : Int64 := μ.2.1 a k
def gR (μ : Mem) (a k : Nat) : Option Nat := μ.2.2 a k
def up2 {α : Type} (f : Nat → Nat → α) (a k : Nat) (v : α) : Nat → Nat → α := fun b j => if b = a then (if j = k then v else f b j) else f b j
def rw2 {α : Type} (f : Nat → Nat → α) (a : Nat) (g : Nat → α) : Nat → Nat → α := fun b j => if b = a then g j else f b j
def sI (μ : Mem) (a k : Nat) (v : Int32) : Mem := (up2 μ.1 a k v, μ.2.1, μ.2.2)
def sL (μ : Mem) (a k : Nat) (v : Int64) : Mem := (μ.1, up2 μ.2.1 a k v, μ.2.2)
def sR (μ : Mem) (a k : Nat) (v : Option Nat) : Mem := (μ.1, μ.2.1, up2 μ.2.2 a k v)
/-- an int array's contents as a whole -/
def sA (μ : Mem) (a : Nat) (g : Nat → Int32) : Mem := (rw2 μ.1 a g, μ.2.1, μ.2.2)
/-- a new cell -/
def zer (μ : Mem) (a : Nat) : Mem := (rw2 μ.1 a (fun _ => 0), rw2 μ.2.1 a (fun _ => 0), rw2 μ.2.2 a (fun _ => none))
theorem gI_sI (μ : Mem) (a k b j : Nat) (v : Int32) : gI (sI μ a k v) b j = if b = a then (if j = k then v else gI μ b j) else gI μ b j := rfl
theorem gI_sL (μ : Mem) (a k b j : Nat) (v : Int64) : gI (sL μ a k v) b j = gI μ b j := rfl
theorem gI_sR (μ : Mem) (a k b j : Nat) (v : Option Nat) : gI (sR μ a k v) b j = gI μ b j := rfl
theorem gI_sA (μ : Mem) (a b j : Nat) (g : Nat → Int32) : gI (sA μ a g) b j = if b = a then g j else gI μ b j := rfl
theorem gL_sI (μ : Mem) (a k b j : Nat) (v : Int32) : gL (sI μ a k v) b j = gL μ b j := rfl
theorem gL_sL (μ : Mem) (a k b j : Nat) (v : Int64) : gL (sL μ a k v) b j = if b = a then (if j = k then v else gL μ b j) else gL μ b j := rfl
theorem gL_sR (μ : Mem) (a k b j : Nat) (v : Option Nat) : gL (sR μ a k v) b j = gL μ b j := rfl
theorem gL_sA (μ : Mem) (a b j : Nat) (g : Nat → Int32) : gL (sA μ a g) b j = gL μ b j := rfl
theorem gR_sI (μ : Mem) (a k b j : Nat) (v : Int32) : gR (sI μ a k v) b j = gR μ b j := rfl
theorem gR_sL (μ : Mem) (a k b j : Nat) (v : Int64) : gR (sL μ a k v) b j = gR μ b j := rfl
theorem gR_sR (μ : Mem) (a k b j : Nat) (v : Option Nat) : gR (sR μ a k v) b j = if b = a then (if j = k then v else gR μ b j) else gR μ b j := rfl
theorem gR_sA (μ : Mem) (a b j : Nat) (g : Nat → Int32) : gR (sA μ a g) b j = gR μ b j := rfl
theorem gI_zer (μ : Mem) (a b j : Nat) : gI (zer μ a) b j = if b = a then 0 else gI μ b j := rfl
theorem gL_zer (μ : Mem) (a b j : Nat) : gL (zer μ a) b j = if b = a then 0 else gL μ b j := rfl
theorem gR_zer (μ : Mem) (a b j : Nat) : gR (zer μ a) b j = if b = a then none else gR μ b j := rfl
/-- a value by name -/
def nm {α β : Type} (v : α) (k : α → β) : β := k v
/-- an index within a row -/
def ib (i : Int32) (n : Nat) : Bool := decide (¬ i < 0) && decide (i.toNatClampNeg < n)
theorem ib_in {i : Int32} {n : Nat} (h : ib i n = true) : vp_in i n := by
  simp only [ib, Bool.and_eq_true, decide_eq_true_eq] at h
  intro hh
  rcases hh with h1 | h1
  · exact h.1 h1
  · omega
/-- an index of a given value -/
def ix (i : Int32) : Nat := i.toNatClampNeg
/-- a call's answer and memory -/
def bM2 {α β : Type} (o : Option (α × Mem)) (k : α → Mem → Option β) : Option β := match o with
  | none => none
  | some v => k v.1 v.2

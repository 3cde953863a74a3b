def wF (n s : Nat) : Nat → Nat → Int64 → Int64 → Int64
  | 0, _, w, _ => w
  | d + 1, k, w, ch => wF n s d (k + 1) (w + (if nI k < nI s then 0 else ch)) ((ch * (nI n - nI k).toInt64) / (nI k + 1).toInt64)
def finX (n : Nat) (w : Int64) : Int32 := ((w * 1000000) >>> ((nI n).toInt64 &&& 63)).toInt32
def finM (n : Nat) (w : Int64) : Int32 := (((1000000 : Int64) * w) / ((1 : Int64) <<< ((nI n).toInt64 &&& 63))).toInt32
theorem fin_1 : ∀ n, n < 41 → ¬ ((1 : Int64) <<< ((nI n).toInt64 &&& 63)) = 0 := by decide +kernel
theorem fin_2 : ∀ n, n < 41 → ∀ s, s < 41 → finX n (wF n s (n + 1) 0 0 1) = finM n (wF n s (n + 1) 0 0 1) ∧ (finX n (wF n s (n + 1) 0 0 1)).toInt ≤ 1000000 := by decide +kernel

/-! Small tools of the second level. -/
theorem nI_t {k : Nat} (h : k < 2147483648) : (nI k).toInt = (k : Int) := by
  unfold nI
  rw [Int32.toInt_ofNat']
  have e : Int32.size = 4294967296 := rfl
  exact Int.bmod_eq_of_le (by omega) (by omega)
theorem toN {v : Int32} {n : Nat} (h0 : 0 ≤ v.toInt) (h1 : v.toInt < (n : Int)) : ∃ k, k < n ∧ v = nI k := by
  have hb := Int32.toInt_lt v
  refine ⟨v.toInt.toNat, by omega, ?_⟩
  apply Int32.toInt_inj.mp
  rw [nI_t (by omega)]
  omega
theorem ix_e (i : Int32) : ix i = i.toInt.toNat := rfl
theorem ix_n {k : Nat} (h : k < 2147483648) : ix (nI k) = k := by rw [ix_e, nI_t h]; omega
theorem ib_e (i : Int32) (n : Nat) : (ib i n = true) = (0 ≤ i.toInt ∧ i.toInt < (n : Int)) := by
  unfold ib
  have e : i.toNatClampNeg = i.toInt.toNat := rfl
  simp only [Bool.and_eq_true, decide_eq_true_eq, Int32.lt_iff_toInt_lt, e, eq_iff_iff]
  have z : (0 : Int32).toInt = 0 := rfl
  rw [z]
  omega
theorem ibT {i : Int32} {n : Nat} (h0 : 0 ≤ i.toInt) (h1 : i.toInt < (n : Int)) : ib i n = true := by rw [ib_e]; exact ⟨h0, h1⟩
theorem ib_n {k n : Nat} (h : k < n) (h2 : k < 2147483648) : ib (nI k) n = true := by rw [ib_e, nI_t h2]; omega
theorem bw {β : Type} (v a b : Int32) (k : Int32 → Option β) : Option.bind (f_X_within v a b) k = if a.toInt ≤ v.toInt ∧ v.toInt ≤ b.toInt then k 1 else k 0 := by
  unfold f_X_within
  simp only [Int32.lt_iff_toInt_lt]
  by_cases h1 : v.toInt < a.toInt
  · rw [if_pos h1, if_neg (by omega)]; rfl
  · by_cases h2 : b.toInt < v.toInt
    · rw [if_neg h1, if_pos h2, if_neg (by omega)]; rfl
    · rw [if_neg h1, if_neg h2, if_pos (by omega)]; rfl
theorem bn {β : Type} (v a b : Int64) (k : Int32 → Option β) : Option.bind (f_M_in v a b) k = if a.toInt ≤ v.toInt ∧ v.toInt ≤ b.toInt then k 1 else k 0 := by
  unfold f_M_in
  simp only [Int64.lt_iff_toInt_lt]
  by_cases h1 : v.toInt < a.toInt
  · rw [if_pos h1, if_neg (by omega)]; rfl
  · by_cases h2 : b.toInt < v.toInt
    · rw [if_neg h1, if_pos h2, if_neg (by omega)]; rfl
    · rw [if_neg h1, if_neg h2, if_pos (by omega)]; rfl
theorem bn2 {β : Type} (v : Int32) (a b : Int64) (k : Int32 → Option β) : Option.bind (f_M_in v.toInt64 a b) k = if a.toInt ≤ v.toInt ∧ v.toInt ≤ b.toInt then k 1 else k 0 := by
  rw [bn, Int32.toInt_toInt64]
theorem bs {α β : Type} (v : α) (k : α → Option β) : Option.bind (some v) k = k v := rfl
theorem b2s {α β : Type} (v : α) (μ : Mem) (k : α → Mem → Option β) : bM2 (some (v, μ)) k = k v μ := rfl
theorem nme {α β : Type} (v : α) (k : α → β) : nm v k = k v := rfl
theorem zn10 : (¬ (1 : Int32) = 0) = True := eq_true (by decide)
theorem zn01 : (¬ (0 : Int32) = 0) = False := eq_false (by decide)
theorem ze10 : ((1 : Int32) = 0) = False := eq_false (by decide)
theorem ze00 : ((0 : Int32) = 0) = True := eq_true (by decide)
theorem ze01 : ((0 : Int32) = 0 ∨ (0 : Int32) = 1) = True := eq_true (by decide)
theorem ze11 : ((1 : Int32) = 0 ∨ (1 : Int32) = 1) = True := eq_true (by decide)
theorem bOw {β : Type} (v : Int32) (k : Int32 → Option β) : Option.bind (f_X_isOwner v) k = if 0 ≤ v.toInt ∧ v.toInt ≤ 7 then k 1 else k 0 := by
  unfold f_X_isOwner
  simp only [Int32.lt_iff_toInt_lt, Int32.le_iff_toInt_le]
  have z : (0 : Int32).toInt = 0 := rfl
  have e : (8 : Int32).toInt = 8 := rfl
  rw [z, e]
  by_cases h1 : v.toInt < 0
  · rw [if_pos h1, if_neg (by omega)]; rfl
  · by_cases h2 : 8 ≤ v.toInt
    · rw [if_neg h1, if_pos h2, if_neg (by omega)]; rfl
    · rw [if_neg h1, if_neg h2, if_pos (by omega)]; rfl
theorem bOn {β : Type} (v : Int32) (k : Int32 → Option β) : Option.bind (f_M_isOwner v) k = if 0 ≤ v.toInt ∧ v.toInt ≤ 7 then k 1 else k 0 := by
  unfold f_M_isOwner
  rw [bn2]
  have z : (0 : Int64).toInt = 0 := rfl
  have e : (7 : Int64).toInt = 7 := rfl
  rw [z, e]
  by_cases h1 : 0 ≤ v.toInt ∧ v.toInt ≤ 7
  · rw [if_pos h1, if_pos h1]; rfl
  · rw [if_neg h1, if_neg h1]; rfl
theorem nIm1 {t : Nat} (h : t ≤ 40) : (nI t - 1).toInt = (t : Int) - 1 := by
  have : ∀ t, t < 41 → (nI t - 1).toInt = (t : Int) - 1 := by decide +kernel
  exact this t (by omega)
/-- a top's number, seen by both sides -/
theorem bTw {β : Type} {t : Nat} {x m : Mem} (h : iTop t x m) (v : Int32) (k : Option Nat → Option β) : Option.bind (f_X_topAt x v) k = if 0 ≤ v.toInt ∧ v.toInt < (t : Int) then k (some (56 + v.toInt.toNat)) else k none := by
  obtain ⟨h1, h2, h3, h4⟩ := h
  unfold f_X_topAt
  rw [h2]
  simp only [Int32.lt_iff_toInt_lt, Int32.le_iff_toInt_le, nI_t (show t < 2147483648 by omega), ib_e, ix_e, nme]
  have z : (0 : Int32).toInt = 0 := rfl
  have e : (40 : Int32).toInt = 40 := rfl
  rw [z, e]
  by_cases c1 : v.toInt < 0
  · rw [if_pos c1, if_neg (by omega)]; rfl
  · by_cases c2 : (t : Int) ≤ v.toInt
    · rw [if_neg c1, if_pos c2, if_neg (by omega)]; rfl
    · rw [if_neg c1, if_neg c2, if_neg (by omega), if_pos (by omega), if_pos (by omega), (h4 v.toInt.toNat (by omega)).1]; rfl
theorem bTn {β : Type} {t : Nat} {x m : Mem} (h : iTop t x m) (v : Int32) (k : Int32 → Option β) : Option.bind (f_M_isTop m v) k = if 0 ≤ v.toInt ∧ v.toInt < (t : Int) then k 1 else k 0 := by
  obtain ⟨h1, h2, h3, h4⟩ := h
  unfold f_M_isTop
  rw [bn2, h3, Int32.toInt_toInt64, nIm1 h1]
  have z : (0 : Int64).toInt = 0 := rfl
  rw [z]
  by_cases c : 0 ≤ v.toInt ∧ v.toInt < (t : Int)
  · rw [if_pos c, if_pos (by omega)]; rfl
  · rw [if_neg c, if_neg (by omega)]; rfl
theorem Inv.uTop {c n : Nat} {x m x' m' : Mem} (h : Inv c n x m) (ex : EqOn (fun a k => perX a k ∧ ¬ pTop a k) x x') (em : EqOn (fun a k => perM a k ∧ ¬ qTop a k) m m') (hb : ∀ t, n = 56 + t → iTop t x m → iWr t m → iTop t x' m' ∧ iWr t m') : Inv (c + 1) n x' m' := by
  obtain ⟨t, h1, hCs, hTop, hWr, hStr, hBow, hDen, hBou, hWhi, hCho, hPas, hGam, hLas, hMet, hFin, hShe⟩ := h
  refine ⟨t, h1, hCs.cg ?_, (hb t h1 hTop hWr).1, (hb t h1 hTop hWr).2, hStr.cg ?_ ?_, hBow.cg ?_ ?_, hDen.cg ?_ ?_, hBou.cg ?_ ?_, hWhi.cg ?_ ?_, hCho.cg ?_ ?_, hPas.cg ?_ ?_, hGam.cg ?_ ?_, hLas.cg ?_ ?_, hMet.up.cg ?_ ?_, hFin.cg ?_ ?_, hShe.cg ?_ ?_⟩
  all_goals first
    | exact ex.mono (fun a k p => ⟨by unfold perX; simp only [p, true_or, or_true], by simp only [pTop, pStr, pBow, pDen, pBou, pWhi, pCho, pPas, pGam, pLas, pMet, pFin, pShe] at p ⊢; omega⟩)
    | exact em.mono (fun a k p => ⟨by unfold perM; simp only [p, true_or, or_true], by simp only [qCs, qTop, qStr, qBow, qDen, qBou, qWhi, qCho, qPas, qGam, qLas, qMet, qFin, qShe] at p ⊢; omega⟩)
theorem Inv.uStr {c n : Nat} {x m x' m' : Mem} (h : Inv c n x m) (ex : EqOn (fun a k => perX a k ∧ ¬ pStr a k) x x') (em : EqOn (fun a k => perM a k ∧ ¬ qStr a k) m m') (hb : ∀ t, n = 56 + t → iTop t x m → iStr x m → iStr x' m') : Inv (c + 1) n x' m' := by
  obtain ⟨t, h1, hCs, hTop, hWr, hStr, hBow, hDen, hBou, hWhi, hCho, hPas, hGam, hLas, hMet, hFin, hShe⟩ := h
  refine ⟨t, h1, hCs.cg ?_, hTop.cg ?_ ?_, hWr.cg ?_, hb t h1 hTop hStr, hBow.cg ?_ ?_, hDen.cg ?_ ?_, hBou.cg ?_ ?_, hWhi.cg ?_ ?_, hCho.cg ?_ ?_, hPas.cg ?_ ?_, hGam.cg ?_ ?_, hLas.cg ?_ ?_, hMet.up.cg ?_ ?_, hFin.cg ?_ ?_, hShe.cg ?_ ?_⟩
  all_goals first
    | exact ex.mono (fun a k p => ⟨by unfold perX; simp only [p, true_or, or_true], by simp only [pTop, pStr, pBow, pDen, pBou, pWhi, pCho, pPas, pGam, pLas, pMet, pFin, pShe] at p ⊢; omega⟩)
    | exact em.mono (fun a k p => ⟨by unfold perM; simp only [p, true_or, or_true], by simp only [qCs, qTop, qStr, qBow, qDen, qBou, qWhi, qCho, qPas, qGam, qLas, qMet, qFin, qShe] at p ⊢; omega⟩)
theorem Inv.uBow {c n : Nat} {x m x' m' : Mem} (h : Inv c n x m) (ex : EqOn (fun a k => perX a k ∧ ¬ pBow a k) x x') (em : EqOn (fun a k => perM a k ∧ ¬ qBow a k) m m') (hb : ∀ t, n = 56 + t → iTop t x m → iBow x m → iBow x' m') : Inv (c + 1) n x' m' := by
  obtain ⟨t, h1, hCs, hTop, hWr, hStr, hBow, hDen, hBou, hWhi, hCho, hPas, hGam, hLas, hMet, hFin, hShe⟩ := h
  refine ⟨t, h1, hCs.cg ?_, hTop.cg ?_ ?_, hWr.cg ?_, hStr.cg ?_ ?_, hb t h1 hTop hBow, hDen.cg ?_ ?_, hBou.cg ?_ ?_, hWhi.cg ?_ ?_, hCho.cg ?_ ?_, hPas.cg ?_ ?_, hGam.cg ?_ ?_, hLas.cg ?_ ?_, hMet.up.cg ?_ ?_, hFin.cg ?_ ?_, hShe.cg ?_ ?_⟩
  all_goals first
    | exact ex.mono (fun a k p => ⟨by unfold perX; simp only [p, true_or, or_true], by simp only [pTop, pStr, pBow, pDen, pBou, pWhi, pCho, pPas, pGam, pLas, pMet, pFin, pShe] at p ⊢; omega⟩)
    | exact em.mono (fun a k p => ⟨by unfold perM; simp only [p, true_or, or_true], by simp only [qCs, qTop, qStr, qBow, qDen, qBou, qWhi, qCho, qPas, qGam, qLas, qMet, qFin, qShe] at p ⊢; omega⟩)
theorem Inv.uDen {c n : Nat} {x m x' m' : Mem} (h : Inv c n x m) (ex : EqOn (fun a k => perX a k ∧ ¬ pDen a k) x x') (em : EqOn (fun a k => perM a k ∧ ¬ qDen a k) m m') (hb : ∀ t, n = 56 + t → iTop t x m → iDen x m → iDen x' m') : Inv (c + 1) n x' m' := by
  obtain ⟨t, h1, hCs, hTop, hWr, hStr, hBow, hDen, hBou, hWhi, hCho, hPas, hGam, hLas, hMet, hFin, hShe⟩ := h
  refine ⟨t, h1, hCs.cg ?_, hTop.cg ?_ ?_, hWr.cg ?_, hStr.cg ?_ ?_, hBow.cg ?_ ?_, hb t h1 hTop hDen, hBou.cg ?_ ?_, hWhi.cg ?_ ?_, hCho.cg ?_ ?_, hPas.cg ?_ ?_, hGam.cg ?_ ?_, hLas.cg ?_ ?_, hMet.up.cg ?_ ?_, hFin.cg ?_ ?_, hShe.cg ?_ ?_⟩
  all_goals first
    | exact ex.mono (fun a k p => ⟨by unfold perX; simp only [p, true_or, or_true], by simp only [pTop, pStr, pBow, pDen, pBou, pWhi, pCho, pPas, pGam, pLas, pMet, pFin, pShe] at p ⊢; omega⟩)
    | exact em.mono (fun a k p => ⟨by unfold perM; simp only [p, true_or, or_true], by simp only [qCs, qTop, qStr, qBow, qDen, qBou, qWhi, qCho, qPas, qGam, qLas, qMet, qFin, qShe] at p ⊢; omega⟩)
theorem Inv.uBou {c n : Nat} {x m x' m' : Mem} (h : Inv c n x m) (ex : EqOn (fun a k => perX a k ∧ ¬ pBou a k) x x') (em : EqOn (fun a k => perM a k ∧ ¬ qBou a k) m m') (hb : ∀ t, n = 56 + t → iTop t x m → iBou t x m → iBou t x' m') : Inv (c + 1) n x' m' := by
  obtain ⟨t, h1, hCs, hTop, hWr, hStr, hBow, hDen, hBou, hWhi, hCho, hPas, hGam, hLas, hMet, hFin, hShe⟩ := h
  refine ⟨t, h1, hCs.cg ?_, hTop.cg ?_ ?_, hWr.cg ?_, hStr.cg ?_ ?_, hBow.cg ?_ ?_, hDen.cg ?_ ?_, hb t h1 hTop hBou, hWhi.cg ?_ ?_, hCho.cg ?_ ?_, hPas.cg ?_ ?_, hGam.cg ?_ ?_, hLas.cg ?_ ?_, hMet.up.cg ?_ ?_, hFin.cg ?_ ?_, hShe.cg ?_ ?_⟩
  all_goals first
    | exact ex.mono (fun a k p => ⟨by unfold perX; simp only [p, true_or, or_true], by simp only [pTop, pStr, pBow, pDen, pBou, pWhi, pCho, pPas, pGam, pLas, pMet, pFin, pShe] at p ⊢; omega⟩)
    | exact em.mono (fun a k p => ⟨by unfold perM; simp only [p, true_or, or_true], by simp only [qCs, qTop, qStr, qBow, qDen, qBou, qWhi, qCho, qPas, qGam, qLas, qMet, qFin, qShe] at p ⊢; omega⟩)
theorem Inv.uWhi {c n : Nat} {x m x' m' : Mem} (h : Inv c n x m) (ex : EqOn (fun a k => perX a k ∧ ¬ pWhi a k) x x') (em : EqOn (fun a k => perM a k ∧ ¬ qWhi a k) m m') (hb : ∀ t, n = 56 + t → iTop t x m → iWhi x m → iWhi x' m') : Inv (c + 1) n x' m' := by
  obtain ⟨t, h1, hCs, hTop, hWr, hStr, hBow, hDen, hBou, hWhi, hCho, hPas, hGam, hLas, hMet, hFin, hShe⟩ := h
  refine ⟨t, h1, hCs.cg ?_, hTop.cg ?_ ?_, hWr.cg ?_, hStr.cg ?_ ?_, hBow.cg ?_ ?_, hDen.cg ?_ ?_, hBou.cg ?_ ?_, hb t h1 hTop hWhi, hCho.cg ?_ ?_, hPas.cg ?_ ?_, hGam.cg ?_ ?_, hLas.cg ?_ ?_, hMet.up.cg ?_ ?_, hFin.cg ?_ ?_, hShe.cg ?_ ?_⟩
  all_goals first
    | exact ex.mono (fun a k p => ⟨by unfold perX; simp only [p, true_or, or_true], by simp only [pTop, pStr, pBow, pDen, pBou, pWhi, pCho, pPas, pGam, pLas, pMet, pFin, pShe] at p ⊢; omega⟩)
    | exact em.mono (fun a k p => ⟨by unfold perM; simp only [p, true_or, or_true], by simp only [qCs, qTop, qStr, qBow, qDen, qBou, qWhi, qCho, qPas, qGam, qLas, qMet, qFin, qShe] at p ⊢; omega⟩)
theorem Inv.uCho {c n : Nat} {x m x' m' : Mem} (h : Inv c n x m) (ex : EqOn (fun a k => perX a k ∧ ¬ pCho a k) x x') (em : EqOn (fun a k => perM a k ∧ ¬ qCho a k) m m') (hb : ∀ t, n = 56 + t → iTop t x m → iCho t x m → iCho t x' m') : Inv (c + 1) n x' m' := by
  obtain ⟨t, h1, hCs, hTop, hWr, hStr, hBow, hDen, hBou, hWhi, hCho, hPas, hGam, hLas, hMet, hFin, hShe⟩ := h
  refine ⟨t, h1, hCs.cg ?_, hTop.cg ?_ ?_, hWr.cg ?_, hStr.cg ?_ ?_, hBow.cg ?_ ?_, hDen.cg ?_ ?_, hBou.cg ?_ ?_, hWhi.cg ?_ ?_, hb t h1 hTop hCho, hPas.cg ?_ ?_, hGam.cg ?_ ?_, hLas.cg ?_ ?_, hMet.up.cg ?_ ?_, hFin.cg ?_ ?_, hShe.cg ?_ ?_⟩
  all_goals first
    | exact ex.mono (fun a k p => ⟨by unfold perX; simp only [p, true_or, or_true], by simp only [pTop, pStr, pBow, pDen, pBou, pWhi, pCho, pPas, pGam, pLas, pMet, pFin, pShe] at p ⊢; omega⟩)
    | exact em.mono (fun a k p => ⟨by unfold perM; simp only [p, true_or, or_true], by simp only [qCs, qTop, qStr, qBow, qDen, qBou, qWhi, qCho, qPas, qGam, qLas, qMet, qFin, qShe] at p ⊢; omega⟩)
theorem Inv.uPas {c n : Nat} {x m x' m' : Mem} (h : Inv c n x m) (ex : EqOn (fun a k => perX a k ∧ ¬ pPas a k) x x') (em : EqOn (fun a k => perM a k ∧ ¬ qPas a k) m m') (hb : ∀ t, n = 56 + t → iTop t x m → iPas t x m → iPas t x' m') : Inv (c + 1) n x' m' := by
  obtain ⟨t, h1, hCs, hTop, hWr, hStr, hBow, hDen, hBou, hWhi, hCho, hPas, hGam, hLas, hMet, hFin, hShe⟩ := h
  refine ⟨t, h1, hCs.cg ?_, hTop.cg ?_ ?_, hWr.cg ?_, hStr.cg ?_ ?_, hBow.cg ?_ ?_, hDen.cg ?_ ?_, hBou.cg ?_ ?_, hWhi.cg ?_ ?_, hCho.cg ?_ ?_, hb t h1 hTop hPas, hGam.cg ?_ ?_, hLas.cg ?_ ?_, hMet.up.cg ?_ ?_, hFin.cg ?_ ?_, hShe.cg ?_ ?_⟩
  all_goals first
    | exact ex.mono (fun a k p => ⟨by unfold perX; simp only [p, true_or, or_true], by simp only [pTop, pStr, pBow, pDen, pBou, pWhi, pCho, pPas, pGam, pLas, pMet, pFin, pShe] at p ⊢; omega⟩)
    | exact em.mono (fun a k p => ⟨by unfold perM; simp only [p, true_or, or_true], by simp only [qCs, qTop, qStr, qBow, qDen, qBou, qWhi, qCho, qPas, qGam, qLas, qMet, qFin, qShe] at p ⊢; omega⟩)
theorem Inv.uGam {c n : Nat} {x m x' m' : Mem} (h : Inv c n x m) (ex : EqOn (fun a k => perX a k ∧ ¬ pGam a k) x x') (em : EqOn (fun a k => perM a k ∧ ¬ qGam a k) m m') (hb : ∀ t, n = 56 + t → iTop t x m → iGam x m → iGam x' m') : Inv (c + 1) n x' m' := by
  obtain ⟨t, h1, hCs, hTop, hWr, hStr, hBow, hDen, hBou, hWhi, hCho, hPas, hGam, hLas, hMet, hFin, hShe⟩ := h
  refine ⟨t, h1, hCs.cg ?_, hTop.cg ?_ ?_, hWr.cg ?_, hStr.cg ?_ ?_, hBow.cg ?_ ?_, hDen.cg ?_ ?_, hBou.cg ?_ ?_, hWhi.cg ?_ ?_, hCho.cg ?_ ?_, hPas.cg ?_ ?_, hb t h1 hTop hGam, hLas.cg ?_ ?_, hMet.up.cg ?_ ?_, hFin.cg ?_ ?_, hShe.cg ?_ ?_⟩
  all_goals first
    | exact ex.mono (fun a k p => ⟨by unfold perX; simp only [p, true_or, or_true], by simp only [pTop, pStr, pBow, pDen, pBou, pWhi, pCho, pPas, pGam, pLas, pMet, pFin, pShe] at p ⊢; omega⟩)
    | exact em.mono (fun a k p => ⟨by unfold perM; simp only [p, true_or, or_true], by simp only [qCs, qTop, qStr, qBow, qDen, qBou, qWhi, qCho, qPas, qGam, qLas, qMet, qFin, qShe] at p ⊢; omega⟩)
theorem Inv.uLas {c n : Nat} {x m x' m' : Mem} (h : Inv c n x m) (ex : EqOn (fun a k => perX a k ∧ ¬ pLas a k) x x') (em : EqOn (fun a k => perM a k ∧ ¬ qLas a k) m m') (hb : ∀ t, n = 56 + t → iTop t x m → iLas x m → iLas x' m') : Inv (c + 1) n x' m' := by
  obtain ⟨t, h1, hCs, hTop, hWr, hStr, hBow, hDen, hBou, hWhi, hCho, hPas, hGam, hLas, hMet, hFin, hShe⟩ := h
  refine ⟨t, h1, hCs.cg ?_, hTop.cg ?_ ?_, hWr.cg ?_, hStr.cg ?_ ?_, hBow.cg ?_ ?_, hDen.cg ?_ ?_, hBou.cg ?_ ?_, hWhi.cg ?_ ?_, hCho.cg ?_ ?_, hPas.cg ?_ ?_, hGam.cg ?_ ?_, hb t h1 hTop hLas, hMet.up.cg ?_ ?_, hFin.cg ?_ ?_, hShe.cg ?_ ?_⟩
  all_goals first
    | exact ex.mono (fun a k p => ⟨by unfold perX; simp only [p, true_or, or_true], by simp only [pTop, pStr, pBow, pDen, pBou, pWhi, pCho, pPas, pGam, pLas, pMet, pFin, pShe] at p ⊢; omega⟩)
    | exact em.mono (fun a k p => ⟨by unfold perM; simp only [p, true_or, or_true], by simp only [qCs, qTop, qStr, qBow, qDen, qBou, qWhi, qCho, qPas, qGam, qLas, qMet, qFin, qShe] at p ⊢; omega⟩)
theorem Inv.uMet {c n : Nat} {x m x' m' : Mem} (h : Inv c n x m) (ex : EqOn (fun a k => perX a k ∧ ¬ pMet a k) x x') (em : EqOn (fun a k => perM a k ∧ ¬ qMet a k) m m') (hb : ∀ t, n = 56 + t → iTop t x m → iMet c x m → iMet (c + 1) x' m') : Inv (c + 1) n x' m' := by
  obtain ⟨t, h1, hCs, hTop, hWr, hStr, hBow, hDen, hBou, hWhi, hCho, hPas, hGam, hLas, hMet, hFin, hShe⟩ := h
  refine ⟨t, h1, hCs.cg ?_, hTop.cg ?_ ?_, hWr.cg ?_, hStr.cg ?_ ?_, hBow.cg ?_ ?_, hDen.cg ?_ ?_, hBou.cg ?_ ?_, hWhi.cg ?_ ?_, hCho.cg ?_ ?_, hPas.cg ?_ ?_, hGam.cg ?_ ?_, hLas.cg ?_ ?_, hb t h1 hTop hMet, hFin.cg ?_ ?_, hShe.cg ?_ ?_⟩
  all_goals first
    | exact ex.mono (fun a k p => ⟨by unfold perX; simp only [p, true_or, or_true], by simp only [pTop, pStr, pBow, pDen, pBou, pWhi, pCho, pPas, pGam, pLas, pMet, pFin, pShe] at p ⊢; omega⟩)
    | exact em.mono (fun a k p => ⟨by unfold perM; simp only [p, true_or, or_true], by simp only [qCs, qTop, qStr, qBow, qDen, qBou, qWhi, qCho, qPas, qGam, qLas, qMet, qFin, qShe] at p ⊢; omega⟩)
theorem Inv.uFin {c n : Nat} {x m x' m' : Mem} (h : Inv c n x m) (ex : EqOn (fun a k => perX a k ∧ ¬ pFin a k) x x') (em : EqOn (fun a k => perM a k ∧ ¬ qFin a k) m m') (hb : ∀ t, n = 56 + t → iTop t x m → iFin x m → iFin x' m') : Inv (c + 1) n x' m' := by
  obtain ⟨t, h1, hCs, hTop, hWr, hStr, hBow, hDen, hBou, hWhi, hCho, hPas, hGam, hLas, hMet, hFin, hShe⟩ := h
  refine ⟨t, h1, hCs.cg ?_, hTop.cg ?_ ?_, hWr.cg ?_, hStr.cg ?_ ?_, hBow.cg ?_ ?_, hDen.cg ?_ ?_, hBou.cg ?_ ?_, hWhi.cg ?_ ?_, hCho.cg ?_ ?_, hPas.cg ?_ ?_, hGam.cg ?_ ?_, hLas.cg ?_ ?_, hMet.up.cg ?_ ?_, hb t h1 hTop hFin, hShe.cg ?_ ?_⟩
  all_goals first
    | exact ex.mono (fun a k p => ⟨by unfold perX; simp only [p, true_or, or_true], by simp only [pTop, pStr, pBow, pDen, pBou, pWhi, pCho, pPas, pGam, pLas, pMet, pFin, pShe] at p ⊢; omega⟩)
    | exact em.mono (fun a k p => ⟨by unfold perM; simp only [p, true_or, or_true], by simp only [qCs, qTop, qStr, qBow, qDen, qBou, qWhi, qCho, qPas, qGam, qLas, qMet, qFin, qShe] at p ⊢; omega⟩)
theorem Inv.uShe {c n : Nat} {x m x' m' : Mem} (h : Inv c n x m) (ex : EqOn (fun a k => perX a k ∧ ¬ pShe a k) x x') (em : EqOn (fun a k => perM a k ∧ ¬ qShe a k) m m') (hb : ∀ t, n = 56 + t → iTop t x m → iShe x m → iShe x' m') : Inv (c + 1) n x' m' := by
  obtain ⟨t, h1, hCs, hTop, hWr, hStr, hBow, hDen, hBou, hWhi, hCho, hPas, hGam, hLas, hMet, hFin, hShe⟩ := h
  refine ⟨t, h1, hCs.cg ?_, hTop.cg ?_ ?_, hWr.cg ?_, hStr.cg ?_ ?_, hBow.cg ?_ ?_, hDen.cg ?_ ?_, hBou.cg ?_ ?_, hWhi.cg ?_ ?_, hCho.cg ?_ ?_, hPas.cg ?_ ?_, hGam.cg ?_ ?_, hLas.cg ?_ ?_, hMet.up.cg ?_ ?_, hFin.cg ?_ ?_, hb t h1 hTop hShe⟩
  all_goals first
    | exact ex.mono (fun a k p => ⟨by unfold perX; simp only [p, true_or, or_true], by simp only [pTop, pStr, pBow, pDen, pBou, pWhi, pCho, pPas, pGam, pLas, pMet, pFin, pShe] at p ⊢; omega⟩)
    | exact em.mono (fun a k p => ⟨by unfold perM; simp only [p, true_or, or_true], by simp only [qCs, qTop, qStr, qBow, qDen, qBou, qWhi, qCho, qPas, qGam, qLas, qMet, qFin, qShe] at p ⊢; omega⟩)

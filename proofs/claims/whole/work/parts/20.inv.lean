/-! What ties the class's memory x and the reference's memory m together. -/
def EqOn (P : Nat → Nat → Prop) (x x' : Mem) : Prop := ∀ a k, P a k → gI x' a k = gI x a k ∧ gL x' a k = gL x a k ∧ gR x' a k = gR x a k
theorem EqOn.rf {P : Nat → Nat → Prop} {x : Mem} : EqOn P x x := fun _ _ _ => ⟨rfl, rfl, rfl⟩
theorem EqOn.tr {P : Nat → Nat → Prop} {x y z : Mem} (h : EqOn P x y) (g : EqOn P y z) : EqOn P x z := fun a k p => ⟨(g a k p).1.trans (h a k p).1, (g a k p).2.1.trans (h a k p).2.1, (g a k p).2.2.trans (h a k p).2.2⟩
theorem EqOn.mono {P Q : Nat → Nat → Prop} {x y : Mem} (h : EqOn Q x y) (hp : ∀ a k, P a k → Q a k) : EqOn P x y := fun a k p => h a k (hp a k p)
theorem EqOn.sI {P : Nat → Nat → Prop} {x y : Mem} {a k : Nat} {v : Int32} (e : EqOn P x y) (h : ¬ P a k) : EqOn P x (sI y a k v) := fun b j p => by
  refine ⟨?_, (e b j p).2.1, (e b j p).2.2⟩
  rw [gI_sI]
  by_cases e1 : b = a
  · by_cases e2 : j = k
    · subst e1; subst e2; exact absurd p h
    · rw [if_pos e1, if_neg e2]; exact (e b j p).1
  · rw [if_neg e1]; exact (e b j p).1
theorem EqOn.sL {P : Nat → Nat → Prop} {x y : Mem} {a k : Nat} {v : Int64} (e : EqOn P x y) (h : ¬ P a k) : EqOn P x (sL y a k v) := fun b j p => by
  refine ⟨(e b j p).1, ?_, (e b j p).2.2⟩
  rw [gL_sL]
  by_cases e1 : b = a
  · by_cases e2 : j = k
    · subst e1; subst e2; exact absurd p h
    · rw [if_pos e1, if_neg e2]; exact (e b j p).2.1
  · rw [if_neg e1]; exact (e b j p).2.1
theorem EqOn.sR {P : Nat → Nat → Prop} {x y : Mem} {a k : Nat} {v : Option Nat} (e : EqOn P x y) (h : ¬ P a k) : EqOn P x (sR y a k v) := fun b j p => by
  refine ⟨(e b j p).1, (e b j p).2.1, ?_⟩
  rw [gR_sR]
  by_cases e1 : b = a
  · by_cases e2 : j = k
    · subst e1; subst e2; exact absurd p h
    · rw [if_pos e1, if_neg e2]; exact (e b j p).2.2
  · rw [if_neg e1]; exact (e b j p).2.2
theorem EqOn.sA {P : Nat → Nat → Prop} {x y : Mem} {a : Nat} {g : Nat → Int32} (e : EqOn P x y) (h : ∀ k, ¬ P a k) : EqOn P x (sA y a g) := fun b j p => by
  refine ⟨?_, (e b j p).2.1, (e b j p).2.2⟩
  have hb : ¬ b = a := fun q => h j (q ▸ p)
  rw [gI_sA, if_neg hb]; exact (e b j p).1
theorem EqOn.zer {P : Nat → Nat → Prop} {x y : Mem} {a : Nat} (e : EqOn P x y) (h : ∀ k, ¬ P a k) : EqOn P x (zer y a) := fun b j p => by
  have hb : ¬ b = a := fun q => h j (q ▸ p)
  refine ⟨?_, ?_, ?_⟩
  · rw [gI_zer, if_neg hb]; exact (e b j p).1
  · rw [gL_zer, if_neg hb]; exact (e b j p).2.1
  · rw [gR_zer, if_neg hb]; exact (e b j p).2.2
-- what a call may leave behind, by the class's cells
def pTop (a k : Nat) : Prop := (a = 0 ∧ k = 1) ∨ a = 1 ∨ 56 ≤ a
def pStr (a _k : Nat) : Prop := a = 4
def pBow (a k : Nat) : Prop := a = 2 ∧ k ≤ 1
def pDen (a k : Nat) : Prop := (a = 2 ∧ k = 2) ∨ a = 3
def pBou (a k : Nat) : Prop := (a = 5 ∧ k = 1) ∨ (10 ≤ a ∧ a ≤ 13 ∧ k ≤ 5)
def pWhi (a k : Nat) : Prop := (a = 5 ∧ k = 5) ∨ a = 7 ∨ a = 8 ∨ a = 9
def pCho (a k : Nat) : Prop := (a = 23 ∧ k ≤ 1) ∨ a = 24 ∨ a = 25 ∨ (27 ≤ a ∧ a ≤ 30)
def pPas (a k : Nat) : Prop := (a = 34 ∧ k = 0) ∨ a = 35 ∨ a = 36 ∨ a = 37
def pGam (a k : Nat) : Prop := (a = 39 ∧ k = 0) ∨ a = 40
def pLas (a _k : Nat) : Prop := a = 42
def pMet (a _k : Nat) : Prop := a = 43
def pFin (a k : Nat) : Prop := a = 0 ∧ k = 13
def pShe (a _k : Nat) : Prop := 48 ≤ a ∧ a ≤ 55
def perX (a k : Nat) : Prop := pTop a k ∨ pStr a k ∨ pBow a k ∨ pDen a k ∨ pBou a k ∨ pWhi a k ∨ pCho a k ∨ pPas a k ∨ pGam a k ∨ pLas a k ∨ pMet a k ∨ pFin a k ∨ pShe a k
-- and by the reference's
def qCs (a _k : Nat) : Prop := a = 1
def qTop (a k : Nat) : Prop := (a = 0 ∧ k = 1) ∨ (2 ≤ a ∧ a ≤ 7)
def qStr (a _k : Nat) : Prop := a = 8
def qBow (a k : Nat) : Prop := a = 0 ∧ (k = 9 ∨ k = 10)
def qDen (a k : Nat) : Prop := (a = 0 ∧ k = 11) ∨ a = 9 ∨ a = 10 ∨ a = 11
def qBou (a k : Nat) : Prop := (a = 0 ∧ k = 15) ∨ (12 ≤ a ∧ a ≤ 16)
def qWhi (a k : Nat) : Prop := (a = 0 ∧ k = 21) ∨ a = 17 ∨ a = 18 ∨ a = 19
def qCho (a k : Nat) : Prop := (a = 0 ∧ (k = 37 ∨ k = 38)) ∨ a = 29 ∨ a = 30 ∨ a = 31
def qPas (a k : Nat) : Prop := (a = 0 ∧ k = 48) ∨ a = 36 ∨ a = 37 ∨ a = 38
def qGam (a k : Nat) : Prop := (a = 0 ∧ k = 55) ∨ a = 39
def qLas (a _k : Nat) : Prop := a = 41
def qMet (a _k : Nat) : Prop := a = 42
def qFin (a k : Nat) : Prop := a = 0 ∧ k = 66
def qShe (a _k : Nat) : Prop := a = 45 ∨ a = 46 ∨ a = 47
def perM (a k : Nat) : Prop := qCs a k ∨ qTop a k ∨ qStr a k ∨ qBow a k ∨ qDen a k ∨ qBou a k ∨ qWhi a k ∨ qCho a k ∨ qPas a k ∨ qGam a k ∨ qLas a k ∨ qMet a k ∨ qFin a k ∨ qShe a k
/-- a whole number's bounds -/
def bt (v : Int32) (lo hi : Int) : Prop := lo ≤ v.toInt ∧ v.toInt ≤ hi
/-- the 36 headings' ways along x -/
def csT : List Int32 := [65, 63, 60, 56, 52, 39, 33, 25, 16, 0, -16, -25, -33, -39, -52, -56, -60, -63, -65, -63, -60, -56, -52, -39, -33, -25, -16, 0, 16, 25, 33, 39, 52, 56, 60, 63]
def iCs (m : Mem) : Prop := ∀ h, h < 36 → gI m 1 h = csT.getD h 0
def iTop (t : Nat) (x m : Mem) : Prop := t ≤ 40 ∧ gI x 0 1 = nI t ∧ gI m 0 1 = nI t ∧ ∀ i, i < t → gR x 1 i = some (56 + i) ∧ gI x (56 + i) 0 = gI m 2 i ∧ gI x (56 + i) 1 = gI m 3 i ∧ gI x (56 + i) 2 = gI m 4 i ∧ gI x (56 + i) 3 = gI m 5 i ∧ gI x (56 + i) 4 = gI m 6 i ∧ gI x (56 + i) 5 = gI m 7 i ∧ bt (gI m 2 i) 1 50 ∧ bt (gI m 3 i) 1 12 ∧ bt (gI m 4 i) 1 9 ∧ (gI m 5 i = 1 ∨ gI m 5 i = -1) ∧ bt (gI m 6 i) 0 7 ∧ bt (gI m 7 i) 0 9
def iWr (t : Nat) (m : Mem) : Prop := ∀ i, t ≤ i → i < 40 → gI m 7 i = 0
def iStr (x m : Mem) : Prop := ∀ o, o < 8 → gI x 4 o = gI m 8 o ∧ bt (gI m 8 o) 0 200
def iBow (x m : Mem) : Prop := gI x 2 0 = gI m 0 9 ∧ gI x 2 1 = gI m 0 10 ∧ bt (gI m 0 9) 5 30 ∧ bt (gI m 0 10) 0 30
/-- what the first d dents add at a cell of the class's field -/
def dsum (m : Mem) (q : Int) : Nat → Int
  | 0 => 0
  | k + 1 => dsum m q k + (if ((gI m 9 k).toInt + 31) * 63 + (gI m 10 k).toInt + 31 = q then (gI m 11 k).toInt else 0)
def iDen (x m : Mem) : Prop := ∃ d, d ≤ 24 ∧ gI x 2 2 = nI d ∧ gI m 0 11 = nI d ∧ (∀ k, k < d → bt (gI m 9 k) (-31) 31 ∧ bt (gI m 10 k) (-31) 31 ∧ bt (gI m 11 k) (-20) 20) ∧ ∀ q : Nat, q < 3969 → (gI x 3 q).toInt = dsum m q d
def iBou (t : Nat) (x m : Mem) : Prop := ∃ p, p ≤ 4 ∧ gI x 5 1 = nI p ∧ gI m 0 15 = nI p ∧ ∀ i, i < p → ∃ j, j < t ∧ gI m 12 i = nI j ∧ gI x (10 + i) 1 = nI j ∧ gR x (10 + i) 0 = some (56 + j) ∧ gI x (10 + i) 2 = gI m 13 i ∧ gI x (10 + i) 3 = gI m 14 i ∧ gI x (10 + i) 4 = gI m 15 i ∧ gI x (10 + i) 5 = gI m 16 i ∧ bt (gI m 13 i) (-30) 30 ∧ bt (gI m 14 i) (-30) 30 ∧ bt (gI m 15 i) 0 35 ∧ bt (gI m 16 i) 1 60
def iWhi (x m : Mem) : Prop := ∃ w, w ≤ 8 ∧ gI x 5 5 = nI w ∧ gI m 0 21 = nI w ∧ ∀ k, k < w → gI x 7 k = gI m 17 k ∧ gI x 8 k = gI m 18 k ∧ gI x 9 k = gI m 19 k ∧ bt (gI m 17 k) 0 3 ∧ bt (gI m 18 k) 1 400 ∧ bt (gI m 19 k) 1 100
def iCho (t : Nat) (x m : Mem) : Prop := ∃ r c, r ≤ 4 ∧ c ≤ 4 ∧ gI x 23 0 = nI r ∧ gI m 0 37 = nI r ∧ gI x 23 1 = nI c ∧ gI m 0 38 = nI c ∧ (∀ i, i < r → ∃ j, j < t ∧ gI x 24 i = nI j ∧ gI m 29 i = nI j) ∧ (∀ i, i < c → ∃ j, j < t ∧ gI x 25 i = nI j ∧ gI m 30 i = nI j) ∧ (∀ i j, i < r → j < c → gI x (27 + i) j = gI m 31 (4 * i + j) ∧ bt (gI m 31 (4 * i + j)) (-9) 9) ∧ ∀ i j, i < 4 → j < 4 → ¬ (i < r ∧ j < c) → gI x (27 + i) j = 0
def iPas (t : Nat) (x m : Mem) : Prop := ∃ k, k ≤ 40 ∧ gI x 34 0 = nI k ∧ gI m 0 48 = nI k ∧ ∀ r, r < k → ∃ a b, a < t ∧ b < t ∧ a ≠ b ∧ gI x 35 r = nI a ∧ gI m 36 r = nI a ∧ gI x 36 r = nI b ∧ gI m 37 r = nI b ∧ gI x 37 r = gI m 38 r ∧ bt (gI m 38 r) (-1) 2
def iGam (x m : Mem) : Prop := ∃ g, g ≤ 40 ∧ gI x 39 0 = nI g ∧ gI m 0 55 = nI g ∧ ∀ k, k < g → gI x 40 k = gI m 39 k ∧ bt (gI m 39 k) 0 255
def iLas (x m : Mem) : Prop := ∀ k, k < 4 → gI x 42 k = gI m 41 k
def iMet (c : Nat) (x m : Mem) : Prop := ∀ k, k < 64 → gI x 43 k = gI m 42 k ∧ bt (gI m 42 k) 0 c
def iFin (x m : Mem) : Prop := gI x 0 13 = gI m 0 66
def iShe (x m : Mem) : Prop := ∀ s, s < 4 → ∃ l, l ≤ 120 ∧ gI x (48 + 2 * s) 2 = nI l ∧ gI m 46 s = nI l ∧ ((gI x (48 + 2 * s) 0 = 0 ∧ gI x (48 + 2 * s) 1 = gI m 45 s ∧ bt (gI m 45 s) 0 2) ∨ (gI x (48 + 2 * s) 0 = 1 ∧ gI m 45 s = -1)) ∧ ∀ i, i < l → gI x (49 + 2 * s) i = gI m 47 (120 * s + i)
def Inv (c n : Nat) (x m : Mem) : Prop := ∃ t, n = 56 + t ∧ iCs m ∧ iTop t x m ∧ iWr t m ∧ iStr x m ∧ iBow x m ∧ iDen x m ∧ iBou t x m ∧ iWhi x m ∧ iCho t x m ∧ iPas t x m ∧ iGam x m ∧ iLas x m ∧ iMet c x m ∧ iFin x m ∧ iShe x m
-- each part speaks of its own cells alone
theorem iCs.cg {m m' : Mem} (h : iCs m) (em : EqOn qCs m m') : iCs m' := fun i hi => by rw [(em 1 i rfl).1]; exact h i hi
theorem iTop.cg {t : Nat} {x m x' m' : Mem} (h : iTop t x m) (ex : EqOn pTop x x') (em : EqOn qTop m m') : iTop t x' m' := by
  obtain ⟨h1, h2, h3, h4⟩ := h
  refine ⟨h1, by rw [(ex 0 1 (Or.inl ⟨rfl, rfl⟩)).1]; exact h2, by rw [(em 0 1 (Or.inl ⟨rfl, rfl⟩)).1]; exact h3, fun i hi => ?_⟩
  have e1 : ∀ k, gI x' (56 + i) k = gI x (56 + i) k := fun k => (ex _ k (Or.inr (Or.inr (by omega)))).1
  have e2 : ∀ a, 2 ≤ a → a ≤ 7 → gI m' a i = gI m a i := fun a h1 h2 => (em a i (Or.inr ⟨h1, h2⟩)).1
  rw [e1, e1, e1, e1, e1, e1, e2 2 (by omega) (by omega), e2 3 (by omega) (by omega), e2 4 (by omega) (by omega), e2 5 (by omega) (by omega), e2 6 (by omega) (by omega), e2 7 (by omega) (by omega), (ex 1 i (Or.inr (Or.inl rfl))).2.2]
  exact h4 i hi
theorem iWr.cg {t : Nat} {m m' : Mem} (h : iWr t m) (em : EqOn qTop m m') : iWr t m' := fun i h1 h2 => by rw [(em 7 i (Or.inr ⟨by omega, by omega⟩)).1]; exact h i h1 h2
theorem iStr.cg {x m x' m' : Mem} (h : iStr x m) (ex : EqOn pStr x x') (em : EqOn qStr m m') : iStr x' m' := fun o ho => by rw [(ex 4 o rfl).1, (em 8 o rfl).1]; exact h o ho
theorem iBow.cg {x m x' m' : Mem} (h : iBow x m) (ex : EqOn pBow x x') (em : EqOn qBow m m') : iBow x' m' := by
  unfold iBow
  rw [(ex 2 0 ⟨rfl, by omega⟩).1, (ex 2 1 ⟨rfl, by omega⟩).1, (em 0 9 ⟨rfl, Or.inl rfl⟩).1, (em 0 10 ⟨rfl, Or.inr rfl⟩).1]
  exact h
theorem dsum.cg {m m' : Mem} (q : Int) (em : EqOn qDen m m') : ∀ d, dsum m' q d = dsum m q d
  | 0 => rfl
  | d + 1 => by
    unfold dsum
    rw [dsum.cg q em d, (em 9 d (Or.inr (Or.inl rfl))).1, (em 10 d (Or.inr (Or.inr (Or.inl rfl)))).1, (em 11 d (Or.inr (Or.inr (Or.inr rfl)))).1]
theorem iDen.cg {x m x' m' : Mem} (h : iDen x m) (ex : EqOn pDen x x') (em : EqOn qDen m m') : iDen x' m' := by
  obtain ⟨d, h1, h2, h3, h4, h5⟩ := h
  refine ⟨d, h1, by rw [(ex 2 2 (Or.inl ⟨rfl, rfl⟩)).1]; exact h2, by rw [(em 0 11 (Or.inl ⟨rfl, rfl⟩)).1]; exact h3, fun k hk => ?_, fun q hq => ?_⟩
  · rw [(em 9 k (Or.inr (Or.inl rfl))).1, (em 10 k (Or.inr (Or.inr (Or.inl rfl)))).1, (em 11 k (Or.inr (Or.inr (Or.inr rfl)))).1]; exact h4 k hk
  · rw [(ex 3 q (Or.inr rfl)).1, dsum.cg _ em]; exact h5 q hq
theorem iBou.cg {t : Nat} {x m x' m' : Mem} (h : iBou t x m) (ex : EqOn pBou x x') (em : EqOn qBou m m') : iBou t x' m' := by
  obtain ⟨p, h1, h2, h3, h4⟩ := h
  refine ⟨p, h1, by rw [(ex 5 1 (Or.inl ⟨rfl, rfl⟩)).1]; exact h2, by rw [(em 0 15 (Or.inl ⟨rfl, rfl⟩)).1]; exact h3, fun i hi => ?_⟩
  have e1 : ∀ k, k ≤ 5 → gI x' (10 + i) k = gI x (10 + i) k := fun k hk => (ex _ k (Or.inr ⟨by omega, by omega, hk⟩)).1
  have e2 : ∀ a, 12 ≤ a → a ≤ 16 → gI m' a i = gI m a i := fun a h1 h2 => (em a i (Or.inr ⟨h1, h2⟩)).1
  rw [e1 1 (by omega), e1 2 (by omega), e1 3 (by omega), e1 4 (by omega), e1 5 (by omega), e2 12 (by omega) (by omega), e2 13 (by omega) (by omega), e2 14 (by omega) (by omega), e2 15 (by omega) (by omega), e2 16 (by omega) (by omega), (ex (10 + i) 0 (Or.inr ⟨by omega, by omega, by omega⟩)).2.2]
  exact h4 i hi
theorem iWhi.cg {x m x' m' : Mem} (h : iWhi x m) (ex : EqOn pWhi x x') (em : EqOn qWhi m m') : iWhi x' m' := by
  obtain ⟨w, h1, h2, h3, h4⟩ := h
  refine ⟨w, h1, by rw [(ex 5 5 (Or.inl ⟨rfl, rfl⟩)).1]; exact h2, by rw [(em 0 21 (Or.inl ⟨rfl, rfl⟩)).1]; exact h3, fun k hk => ?_⟩
  rw [(ex 7 k (Or.inr (Or.inl rfl))).1, (ex 8 k (Or.inr (Or.inr (Or.inl rfl)))).1, (ex 9 k (Or.inr (Or.inr (Or.inr rfl)))).1, (em 17 k (Or.inr (Or.inl rfl))).1, (em 18 k (Or.inr (Or.inr (Or.inl rfl)))).1, (em 19 k (Or.inr (Or.inr (Or.inr rfl)))).1]
  exact h4 k hk
theorem iCho.cg {t : Nat} {x m x' m' : Mem} (h : iCho t x m) (ex : EqOn pCho x x') (em : EqOn qCho m m') : iCho t x' m' := by
  obtain ⟨r, c, h1, h2, h3, h4, h5, h6, h7, h8, h9, h10⟩ := h
  have ep : ∀ i j, i < 4 → gI x' (27 + i) j = gI x (27 + i) j := fun i j hi => (ex _ j (Or.inr (Or.inr (Or.inr ⟨by omega, by omega⟩)))).1
  have em1 : ∀ j, gI m' 31 j = gI m 31 j := fun j => (em 31 j (Or.inr (Or.inr (Or.inr rfl)))).1
  refine ⟨r, c, h1, h2, by rw [(ex 23 0 (Or.inl ⟨rfl, by omega⟩)).1]; exact h3, by rw [(em 0 37 (Or.inl ⟨rfl, Or.inl rfl⟩)).1]; exact h4, by rw [(ex 23 1 (Or.inl ⟨rfl, by omega⟩)).1]; exact h5, by rw [(em 0 38 (Or.inl ⟨rfl, Or.inr rfl⟩)).1]; exact h6, fun i hi => ?_, fun i hi => ?_, fun i j hi hj => ?_, fun i j hi hj hn => ?_⟩
  · rw [(ex 24 i (Or.inr (Or.inl rfl))).1, (em 29 i (Or.inr (Or.inl rfl))).1]; exact h7 i hi
  · rw [(ex 25 i (Or.inr (Or.inr (Or.inl rfl)))).1, (em 30 i (Or.inr (Or.inr (Or.inl rfl)))).1]; exact h8 i hi
  · rw [ep i j (by omega), em1]; exact h9 i j hi hj
  · rw [ep i j hi]; exact h10 i j hi hj hn
theorem iPas.cg {t : Nat} {x m x' m' : Mem} (h : iPas t x m) (ex : EqOn pPas x x') (em : EqOn qPas m m') : iPas t x' m' := by
  obtain ⟨k, h1, h2, h3, h4⟩ := h
  refine ⟨k, h1, by rw [(ex 34 0 (Or.inl ⟨rfl, rfl⟩)).1]; exact h2, by rw [(em 0 48 (Or.inl ⟨rfl, rfl⟩)).1]; exact h3, fun r hr => ?_⟩
  rw [(ex 35 r (Or.inr (Or.inl rfl))).1, (ex 36 r (Or.inr (Or.inr (Or.inl rfl)))).1, (ex 37 r (Or.inr (Or.inr (Or.inr rfl)))).1, (em 36 r (Or.inr (Or.inl rfl))).1, (em 37 r (Or.inr (Or.inr (Or.inl rfl)))).1, (em 38 r (Or.inr (Or.inr (Or.inr rfl)))).1]
  exact h4 r hr
theorem iGam.cg {x m x' m' : Mem} (h : iGam x m) (ex : EqOn pGam x x') (em : EqOn qGam m m') : iGam x' m' := by
  obtain ⟨g, h1, h2, h3, h4⟩ := h
  refine ⟨g, h1, by rw [(ex 39 0 (Or.inl ⟨rfl, rfl⟩)).1]; exact h2, by rw [(em 0 55 (Or.inl ⟨rfl, rfl⟩)).1]; exact h3, fun k hk => ?_⟩
  rw [(ex 40 k (Or.inr rfl)).1, (em 39 k (Or.inr rfl)).1]; exact h4 k hk
theorem iLas.cg {x m x' m' : Mem} (h : iLas x m) (ex : EqOn pLas x x') (em : EqOn qLas m m') : iLas x' m' := fun k hk => by rw [(ex 42 k rfl).1, (em 41 k rfl).1]; exact h k hk
theorem iMet.cg {c : Nat} {x m x' m' : Mem} (h : iMet c x m) (ex : EqOn pMet x x') (em : EqOn qMet m m') : iMet c x' m' := fun k hk => by rw [(ex 43 k rfl).1, (em 42 k rfl).1]; exact h k hk
theorem iMet.up {c : Nat} {x m : Mem} (h : iMet c x m) : iMet (c + 1) x m := fun k hk => ⟨(h k hk).1, (h k hk).2.1, by have := (h k hk).2.2; omega⟩
theorem iFin.cg {x m x' m' : Mem} (h : iFin x m) (ex : EqOn pFin x x') (em : EqOn qFin m m') : iFin x' m' := by
  unfold iFin
  rw [(ex 0 13 ⟨rfl, rfl⟩).1, (em 0 66 ⟨rfl, rfl⟩).1]; exact h
theorem iShe.cg {x m x' m' : Mem} (h : iShe x m) (ex : EqOn pShe x x') (em : EqOn qShe m m') : iShe x' m' := by
  intro s hs
  have e1 : ∀ k, gI x' (48 + 2 * s) k = gI x (48 + 2 * s) k := fun k => (ex _ k ⟨by omega, by omega⟩).1
  have e2 : ∀ k, gI x' (49 + 2 * s) k = gI x (49 + 2 * s) k := fun k => (ex _ k ⟨by omega, by omega⟩).1
  have e3 : ∀ k, gI m' 45 k = gI m 45 k := fun k => (em 45 k (Or.inl rfl)).1
  have e4 : ∀ k, gI m' 46 k = gI m 46 k := fun k => (em 46 k (Or.inr (Or.inl rfl))).1
  have e5 : ∀ k, gI m' 47 k = gI m 47 k := fun k => (em 47 k (Or.inr (Or.inr rfl))).1
  simp only [e1, e2, e3, e4, e5]
  exact h s hs
theorem Inv_next {c n : Nat} {x m : Mem} (h : Inv c n x m) : Inv (c + 1) n x m := by
  obtain ⟨t, h1, h2, h3, h4, h5, h6, h7, h8, h9, h10, h11, h12, h13, h14, h15, h16⟩ := h
  exact ⟨t, h1, h2, h3, h4, h5, h6, h7, h8, h9, h10, h11, h12, h13, h14.up, h15, h16⟩
theorem Inv.cg {c n : Nat} {x m x' m' : Mem} (h : Inv c n x m) (ex : EqOn perX x x') (em : EqOn perM m m') : Inv (c + 1) n x' m' := by
  obtain ⟨t, h1, h2, h3, h4, h5, h6, h7, h8, h9, h10, h11, h12, h13, h14, h15, h16⟩ := Inv_next h
  refine ⟨t, h1, h2.cg ?_, h3.cg ?_ ?_, h4.cg ?_, h5.cg ?_ ?_, h6.cg ?_ ?_, h7.cg ?_ ?_, h8.cg ?_ ?_, h9.cg ?_ ?_, h10.cg ?_ ?_, h11.cg ?_ ?_, h12.cg ?_ ?_, h13.cg ?_ ?_, h14.cg ?_ ?_, h15.cg ?_ ?_, h16.cg ?_ ?_⟩
  all_goals first
    | exact ex.mono (fun a k p => by unfold perX; simp only [p, true_or, or_true])
    | exact em.mono (fun a k p => by unfold perM; simp only [p, true_or, or_true])

/-- bounds of a standing top: place, swing (B), heading, spin (S), lean (L) -/
def bG (B S L : Int) (s : SS) : Prop := (-1950 ≤ s.1.toInt ∧ s.1.toInt ≤ 1950) ∧ (-1950 ≤ s.2.1.toInt ∧ s.2.1.toInt ≤ 1950) ∧ (-B ≤ s.2.2.1.toInt ∧ s.2.2.1.toInt ≤ B) ∧ (-B ≤ s.2.2.2.1.toInt ∧ s.2.2.2.1.toInt ≤ B) ∧ (0 ≤ s.2.2.2.2.1.toInt ∧ s.2.2.2.2.1.toInt ≤ 35) ∧ (0 ≤ s.2.2.2.2.2.1.toInt ∧ s.2.2.2.2.2.1.toInt ≤ S) ∧ (0 ≤ s.2.2.2.2.2.2.1.toInt ∧ s.2.2.2.2.2.2.1.toInt ≤ L)
theorem bG.up {B S L B' S' L' : Int} {s : SS} (h : bG B S L s) (h1 : B ≤ B') (h2 : S ≤ S') (h3 : L ≤ L') : bG B' S' L' s := by
  obtain ⟨a1, a2, a3, a4, a5, a6, a7⟩ := h
  exact ⟨a1, a2, ⟨by omega, by omega⟩, ⟨by omega, by omega⟩, a5, ⟨by omega, by omega⟩, ⟨by omega, by omega⟩⟩
theorem cs_b : ∀ k, k < 36 → -65 ≤ (csT.getD k 0).toInt ∧ (csT.getD k 0).toInt ≤ 65 := by decide +kernel
theorem t_b {w l c : Int32} (hw : 1 ≤ w.toInt ∧ w.toInt ≤ 50) (hl : 0 ≤ l.toInt ∧ l.toInt ≤ 9) (hc : -65 ≤ c.toInt ∧ c.toInt ≤ 65) : -500 ≤ (((w * l) * c) / 65).toInt ∧ (((w * l) * c) / 65).toInt ≤ 500 := by
  have b1 := mul_b (a := w.toInt) (b := l.toInt) (n := 50) (k := 9) (by omega) (by omega)
  have e1 : (w * l).toInt = w.toInt * l.toInt := m32 (by omega) (by omega)
  have b2 := mul_b (a := w.toInt * l.toInt) (b := c.toInt) (n := 450) (k := 65) (by omega) hc
  have e2 : ((w * l) * c).toInt = w.toInt * l.toInt * c.toInt := by rw [m32, e1] <;> rw [e1] <;> omega
  rw [d32 (by decide), e2, show (65 : Int32).toInt = 65 from rfl]
  obtain ⟨k1, k2⟩ := tdw (a := w.toInt * l.toInt * c.toInt) (w := 65) (by omega)
  by_cases q : 0 ≤ w.toInt * l.toInt * c.toInt
  · have := k1 q
    rw [Int.tdiv_eq_ediv_of_nonneg q]; omega
  · have e3 : w.toInt * l.toInt * c.toInt = -(-(w.toInt * l.toInt * c.toInt)) := by omega
    rw [e3, Int.neg_tdiv, Int.tdiv_eq_ediv_of_nonneg (by omega)]; omega
theorem s1_b {s d l : Int32} {S : Int} (hs : 0 ≤ s.toInt ∧ s.toInt ≤ S) (hd : 0 ≤ d.toInt ∧ d.toInt ≤ 5) (hl : 0 ≤ l.toInt ∧ l.toInt ≤ 9) : 0 ≤ (if s ≤ d + l then 0 else s - (d + l)).toInt ∧ (if s ≤ d + l then 0 else s - (d + l)).toInt ≤ S := by
  have hs2 : s.toInt ≤ 2147483647 := s.toInt_le
  have e1 : (d + l).toInt = d.toInt + l.toInt := a32 (by omega) (by omega)
  have e4 : (s - (d + l)).toInt = s.toInt - (d.toInt + l.toInt) := by rw [s32 (by omega) (by omega), e1]
  by_cases c : s ≤ d + l
  · rw [if_pos c, show (0 : Int32).toInt = 0 from rfl]; omega
  · rw [if_neg c]
    rw [Int32.le_iff_toInt_le, e1] at c
    rw [e4]; omega
theorem l1_b {s l : Int32} {L : Int} (hL : L ≤ 8) (hl : 0 ≤ l.toInt ∧ l.toInt ≤ L) : 0 ≤ (if s < (100 : Int32) + (10 : Int32) * l then (if (50 : Int32) ≤ s then l else l + 1) else (if l ≤ 0 then 0 else l - 1)).toInt ∧ (if s < (100 : Int32) + (10 : Int32) * l then (if (50 : Int32) ≤ s then l else l + 1) else (if l ≤ 0 then 0 else l - 1)).toInt ≤ L + 1 := by
  have e1 : (l + 1).toInt = l.toInt + 1 := a32 (by rw [show (1 : Int32).toInt = 1 from rfl]; omega) (by rw [show (1 : Int32).toInt = 1 from rfl]; omega)
  have e2 : (l - 1).toInt = l.toInt - 1 := s32 (by rw [show (1 : Int32).toInt = 1 from rfl]; omega) (by rw [show (1 : Int32).toInt = 1 from rfl]; omega)
  split
  · split
    · omega
    · rw [e1]; omega
  · split
    · rw [show (0 : Int32).toInt = 0 from rfl]; omega
    · rename_i c
      rw [Int32.le_iff_toInt_le, show (0 : Int32).toInt = 0 from rfl] at c
      rw [e2]; omega
theorem mv_b {S : Int} {d w sn r : Int32} {X Y : Int32 → Int32 → Int32} {s : SS} (hd : 0 ≤ d.toInt ∧ d.toInt ≤ 5) (hw : 1 ≤ w.toInt ∧ w.toInt ≤ 50) (hsn : sn = 1 ∨ sn = -1) (hr : 0 ≤ r.toInt ∧ r.toInt ≤ 30) (hX : ∀ a b : Int32, -30 ≤ a.toInt → a.toInt ≤ 30 → -30 ≤ b.toInt → b.toInt ≤ 30 → -2049 ≤ (X a b).toInt ∧ (X a b).toInt ≤ 2049) (hY : ∀ a b : Int32, -30 ≤ a.toInt → a.toInt ≤ 30 → -30 ≤ b.toInt → b.toInt ≤ 30 → -2049 ≤ (Y a b).toInt ∧ (Y a b).toInt ≤ 2049) (h : bG 798924800 S 8 s) (h0 : ft (mvF d w sn r X Y s) = 0) : bG 195050 S 9 (mvF d w sn r X Y s) := by
  obtain ⟨x, y, p, q, hh, s, l, f⟩ := s
  obtain ⟨hx, hy, hp, hq, hhd, hs, hl⟩ := h
  simp only at hx hy hp hq hhd hs hl
  have b1 := s1_b hs hd (l := l) (by omega)
  have b2 := l1_b (s := if s ≤ d + l then 0 else s - (d + l)) (L := 8) (by omega) hl
  unfold mvF slF tiF puF drF moF leF ft at h0
  unfold mvF slF tiF puF drF moF leF
  simp only at h0 ⊢
  generalize (if s ≤ d + l then 0 else s - (d + l)) = s1 at h0 b1 b2 ⊢
  generalize (if s1 < (100 : Int32) + (10 : Int32) * l then (if (50 : Int32) ≤ s1 then l else l + 1) else (if l ≤ 0 then 0 else l - 1)) = l1 at h0 b2 ⊢
  obtain ⟨m1, k, hk, ek⟩ := hm_e hhd (l := l1) (by omega) hsn
  rw [ek] at h0 ⊢
  have tc := t_b (c := cT (nI k)) hw (l := l1) (by omega) (by rw [cT_n hk]; exact cs_b k hk)
  have ts := t_b (c := sT (nI k)) hw (l := l1) (by omega) (by rw [sT_n hk]; exact cs_b _ (by omega))
  generalize ((w * l1) * cT (nI k)) / 65 = t1 at h0 tc ⊢
  generalize ((w * l1) * sT (nI k)) / 65 = t2 at h0 ts ⊢
  obtain ⟨_, f1, f2⟩ := fd_e hx
  obtain ⟨_, f3, f4⟩ := fd_e hy
  have hX' := hX _ _ f1 f2 f3 f4
  have hY' := hY _ _ f1 f2 f3 f4
  generalize X (fl65 x) (fl65 y) = X1 at h0 hX' ⊢
  generalize Y (fl65 x) (fl65 y) = Y1 at h0 hY' ⊢
  generalize e2 : (p - (((2 : Int64) * w.toInt64) * X1.toInt64)) + t1.toInt64 = p2 at h0 ⊢
  generalize e4 : (q - (((2 : Int64) * w.toInt64) * Y1.toInt64)) + t2.toInt64 = q2 at h0 ⊢
  generalize e3 : x + (p2 - p2 / 16) / w.toInt64 = x3 at h0 ⊢
  generalize e5 : y + (q2 - q2 / 16) / w.toInt64 = y3 at h0 ⊢
  obtain ⟨c1, c2⟩ := co_b hx hp hw hX' tc p2 e2.symm x3 e3.symm
  obtain ⟨c3, c4⟩ := co_b hy hq hw hY' ts q2 e4.symm y3 e5.symm
  have r64 : r.toInt64.toInt = r.toInt := Int32.toInt_toInt64 r
  have u1 := sqb (a := x3.toInt) (n := 820000000) c1.1 c1.2
  have u2 := sqb (a := y3.toInt) (n := 820000000) c3.1 c3.2
  have v1 : (x3 * x3).toInt = x3.toInt * x3.toInt := m64 (by omega) (by omega)
  have v2 : (y3 * y3).toInt = y3.toInt * y3.toInt := m64 (by omega) (by omega)
  have v3 : (x3 * x3 + y3 * y3).toInt = x3.toInt * x3.toInt + y3.toInt * y3.toInt := by rw [a64, v1, v2] <;> rw [v1, v2] <;> omega
  have v4 : ((4225 : Int64) * r.toInt64).toInt = 4225 * r.toInt := by
    rw [m64, r64, show (4225 : Int64).toInt = 4225 from rfl] <;> rw [r64, show (4225 : Int64).toInt = 4225 from rfl] <;> omega
  have u3 := mul_b (a := 4225 * r.toInt) (b := r.toInt) (n := 126750) (k := 30) (by omega) (by omega)
  have v5 : (((4225 : Int64) * r.toInt64) * r.toInt64).toInt = 4225 * r.toInt * r.toInt := by rw [m64, v4, r64] <;> rw [v4, r64] <;> omega
  by_cases c : (x3 * x3) + (y3 * y3) ≤ (((4225 : Int64) * r.toInt64) * r.toInt64)
  · rw [Int64.le_iff_toInt_le, v3, v5] at c
    have w1 := sq_lt (a := x3.toInt) (n := 1950) (by omega) (by omega)
    have w2 := sq_lt (a := y3.toInt) (n := 1950) (by omega) (by omega)
    have w3 := c2 w1.1 w1.2
    have w4 := c4 w2.1 w2.2
    have w5 : (nI k).toInt = (k : Int) := nI_t (by omega)
    refine ⟨w1, w2, w3, w4, ?_, b1, ?_⟩
    · show 0 ≤ (nI k).toInt ∧ (nI k).toInt ≤ 35
      rw [w5]; omega
    · show 0 ≤ l1.toInt ∧ l1.toInt ≤ 9
      omega
  · rw [if_neg c] at h0
    exact absurd h0 (by decide)
theorem hgt_b {x m : Mem} (h : iDen x m) {a b : Int32} (ha : -31 ≤ a.toInt ∧ a.toInt ≤ 31) (hb : -31 ≤ b.toInt ∧ b.toInt ≤ 31) : ∃ v, f_Bw_heightAt x a b = some v ∧ -480 ≤ v.toInt ∧ v.toInt ≤ 1569 := by
  obtain ⟨d, hd, _, _, h4, h5⟩ := h
  have u1 := sqb (a := a.toInt) (n := 31) ha.1 ha.2
  have u2 := sqb (a := b.toInt) (n := 31) hb.1 hb.2
  have v1 : (a * a).toInt = a.toInt * a.toInt := m32 (by omega) (by omega)
  have v2 : (b * b).toInt = b.toInt * b.toInt := m32 (by omega) (by omega)
  have v3 : (a * a + b * b).toInt = a.toInt * a.toInt + b.toInt * b.toInt := by rw [a32, v1, v2] <;> rw [v1, v2] <;> omega
  have v4 : ((a * a + b * b) / 2).toInt = (a.toInt * a.toInt + b.toInt * b.toInt) / 2 := by
    rw [d32 (by decide), v3, show (2 : Int32).toInt = 2 from rfl, Int.tdiv_eq_ediv_of_nonneg (by omega)]
  have dx := dix ha hb
  have i1 : ib ((((a + 31) * 63) + b) + 31) 3969 = true := ibT (by rw [dx]; omega) (by rw [dx]; omega)
  unfold f_Bw_heightAt
  rw [nme]
  have n31 : (-31 : Int32).toInt = -31 := rfl
  have p31 : (31 : Int32).toInt = 31 := rfl
  rw [if_neg (by rw [Int32.lt_iff_toInt_lt, n31]; omega), if_neg (by rw [Int32.lt_iff_toInt_lt, p31]; omega), if_neg (by rw [Int32.lt_iff_toInt_lt, n31]; omega), if_pos (by rw [Int32.le_iff_toInt_le, p31]; omega), if_pos i1]
  refine ⟨_, rfl, ?_⟩
  have e5 := h5 (ix ((((a + 31) * 63) + b) + 31)) (by rw [ix_e, dx]; omega)
  have db := dsum_b (m := m) (((ix ((((a + 31) * 63) + b) + 31) : Nat) : Int)) d (fun k hk => (h4 k hk).2.2)
  rw [a32, v4, e5] <;> (try rw [v4, e5]) <;> omega
/-- the slopes, as the reference tells them -/
def slX (m : Mem) (a b : Int32) : Int32 := (f_M_slopeX FN m a b).getD 0
def slY (m : Mem) (a b : Int32) : Int32 := (f_M_slopeY FN m a b).getD 0
theorem slX_e {x m : Mem} (h : iDen x m) (a b : Int32) : f_Bw_slopeAlongX x a b = some (slX m a b) ∧ f_M_slopeX FN m a b = some (slX m a b) := by
  obtain ⟨v, e1, e2⟩ := slopeX_e h a b
  unfold slX
  rw [e2]; exact ⟨e1, rfl⟩
theorem slY_e {x m : Mem} (h : iDen x m) (a b : Int32) : f_Bw_slopeAlongY x a b = some (slY m a b) ∧ f_M_slopeY FN m a b = some (slY m a b) := by
  obtain ⟨v, e1, e2⟩ := slopeY_e h a b
  unfold slY
  rw [e2]; exact ⟨e1, rfl⟩
theorem slX_b {x m : Mem} (h : iDen x m) (a b : Int32) (h1 : -30 ≤ a.toInt) (h2 : a.toInt ≤ 30) (h3 : -30 ≤ b.toInt) (h4 : b.toInt ≤ 30) : -2049 ≤ (slX m a b).toInt ∧ (slX m a b).toInt ≤ 2049 := by
  have e1 : (a + 1).toInt = a.toInt + 1 := a32 (by rw [l32_1]; omega) (by rw [l32_1]; omega)
  have e2 : (a - 1).toInt = a.toInt - 1 := s32 (by rw [l32_1]; omega) (by rw [l32_1]; omega)
  obtain ⟨v1, p1, p2, p3⟩ := hgt_b h (a := a + 1) (b := b) (by omega) (by omega)
  obtain ⟨v2, q1, q2, q3⟩ := hgt_b h (a := a - 1) (b := b) (by omega) (by omega)
  have e := (slX_e h a b).1
  unfold f_Bw_slopeAlongX at e
  rw [p1, bs, q1, bs] at e
  have e' := Option.some.inj e
  rw [← e', s32 (by omega) (by omega)]; omega
theorem slY_b {x m : Mem} (h : iDen x m) (a b : Int32) (h1 : -30 ≤ a.toInt) (h2 : a.toInt ≤ 30) (h3 : -30 ≤ b.toInt) (h4 : b.toInt ≤ 30) : -2049 ≤ (slY m a b).toInt ∧ (slY m a b).toInt ≤ 2049 := by
  have e1 : (b + 1).toInt = b.toInt + 1 := a32 (by rw [l32_1]; omega) (by rw [l32_1]; omega)
  have e2 : (b - 1).toInt = b.toInt - 1 := s32 (by rw [l32_1]; omega) (by rw [l32_1]; omega)
  obtain ⟨v1, p1, p2, p3⟩ := hgt_b h (a := a) (b := b + 1) (by omega) (by omega)
  obtain ⟨v2, q1, q2, q3⟩ := hgt_b h (a := a) (b := b - 1) (by omega) (by omega)
  have e := (slY_e h a b).1
  unfold f_Bw_slopeAlongY at e
  rw [p1, bs, q1, bs] at e
  have e' := Option.some.inj e
  rw [← e', s32 (by omega) (by omega)]; omega

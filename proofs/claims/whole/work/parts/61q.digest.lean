theorem run_i {c n : Nat} {x m : Mem} (h : Inv c n x m) : ∃ r x' m', f_X_run FN x = some (r, x') ∧ f_M_run FN m = some (r, m') ∧ Inv c n x' m' := by
  obtain ⟨t, ht, hCs, hTop, hWr, hStr, hBow, hDen, hBou, hWhi, hCho, hPas, hGam, hLas, hMet, hFin, hShe⟩ := id h
  obtain ⟨p, p1, p2, p3, p4⟩ := hBou
  unfold f_X_run f_M_run
  rw [p2, p3]
  by_cases c2 : 2 ≤ p
  · obtain ⟨r, t', x', m', q1, q2, q3, q4, q5, q6, q7, q8, q9⟩ := bout_j h p2 p1 (last := 400) (by omega)
    rw [if_pos ((two_le p1).mpr c2), if_pos ((two_le p1).mpr c2), show (400 : Int32) = nI 400 from rfl, q1, q2, b2s, b2s]
    exact ⟨r, x', m', rfl, rfl, q7⟩
  · rw [if_neg (fun q => c2 ((two_le p1).mp q)), if_neg (fun q => c2 ((two_le p1).mp q))]
    exact ⟨_, _, _, rfl, rfl, h⟩
theorem winner_i {c n : Nat} {x m : Mem} (h : Inv c n x m) : ∃ r x' m', f_X_winner FN x = some (r, x') ∧ f_M_winner FN m = some (r, m') ∧ Inv c n x' m' := by
  obtain ⟨t, ht, hCs, hTop, hWr, hStr, hBow, hDen, hBou, hWhi, hCho, hPas, hGam, hLas, hMet, hFin, hShe⟩ := id h
  obtain ⟨p, p1, p2, p3, p4⟩ := hBou
  unfold f_X_winner f_M_winner
  rw [p2, p3]
  by_cases c2 : 2 ≤ p
  · obtain ⟨r, t', x', m', q1, q2, q3, q4, q5, q6, q7, q8, q9⟩ := bout_j h p2 p1 (last := 400) (by omega)
    obtain ⟨v, l1, l2, _⟩ := lone_e (Or.inl ⟨rfl, rfl⟩) q5 q6
    rw [if_pos ((two_le p1).mpr c2), if_pos ((two_le p1).mpr c2), show (400 : Int32) = nI 400 from rfl, q1, q2, b2s, b2s, l1, l2, bs, bs]
    exact ⟨v, x', m', rfl, rfl, q7⟩
  · rw [if_neg (fun q => c2 ((two_le p1).mp q)), if_neg (fun q => c2 ((two_le p1).mp q))]
    exact ⟨_, _, _, rfl, rfl, h⟩
/-- what is still owed of a choice's value -/
def VJ : Prop := ∀ (c n : Nat) (x m : Mem), Inv c n x m → ∃ r x' m', f_X_value FN x = some (r, x') ∧ f_M_value FN m = some (r, m') ∧ Inv c n x' m'
theorem d162 {c p : Nat} {x m : Mem} (hM : iMet c x m) (hp : p < 8) (kX kM : Int64 → Int32 → Mem → Option (Int64 × Mem)) : ∀ d n q h, q + d = 8 → d < n → ∃ h', f_X_digest_l162 FN kX n h (nI p) (nI q) x = kX h' (nI (p + 1)) x ∧ f_M_digest_l162 FN kM n h (nI p) (nI q) m = kM h' (nI (p + 1)) m := by
  intro d
  induction d with
  | zero =>
    intro n q h g1 g2
    obtain ⟨n', rfl⟩ : ∃ n', n = n' + 1 := ⟨n - 1, by omega⟩
    have hq : q = 8 := by omega
    subst hq
    refine ⟨h, ?_, ?_⟩
    · unfold f_X_digest_l162
      rw [if_pos (by decide), nme, y_s]
    · unfold f_M_digest_l162
      rw [if_pos (by decide), nme, y_s]
  | succ d ih =>
    intro n q h g1 g2
    obtain ⟨n', rfl⟩ : ∃ n', n = n' + 1 := ⟨n - 1, by omega⟩
    have hq : q < 8 := by omega
    have n8 : ¬ (8 : Int32) ≤ nI q := by
      show ¬ nI 8 ≤ nI q
      rw [y_le (by omega) (by omega)]; omega
    conv => congr; intro h'; congr; lhs; unfold f_X_digest_l162
    conv => congr; intro h'; rhs; lhs; unfold f_M_digest_l162
    rw [if_neg n8, if_neg n8, (ix8 hp hq).1, (ix8 hp hq).2, if_pos (ib_n (show 8 * p + q < 64 by omega) (by omega)), if_pos (ib_n (show 8 * p + q < 64 by omega) (by omega)), ix_n (by omega), (hM (8 * p + q) (by omega)).1]
    simp only [nme, y_s]
    exact ih n' (q + 1) _ (by omega) (by omega)
theorem d151 {c : Nat} {x m : Mem} (hM : iMet c x m) : ∀ d n p h, p + d = 8 → d < n → ∃ h', f_X_digest_l151 FN n h (nI p) x = some (h', x) ∧ f_M_digest_l151 FN n h (nI p) m = some (h', m) := by
  intro d
  induction d with
  | zero =>
    intro n p h g1 g2
    obtain ⟨n', rfl⟩ : ∃ n', n = n' + 1 := ⟨n - 1, by omega⟩
    have hp : p = 8 := by omega
    subst hp
    refine ⟨h, ?_, ?_⟩
    · unfold f_X_digest_l151
      rw [if_pos (by decide)]
    · unfold f_M_digest_l151
      rw [if_pos (by decide)]
  | succ d ih =>
    intro n p h g1 g2
    obtain ⟨n', rfl⟩ : ∃ n', n = n' + 1 := ⟨n - 1, by omega⟩
    have hp : p < 8 := by omega
    have n8 : ¬ (8 : Int32) ≤ nI p := by
      show ¬ nI 8 ≤ nI p
      rw [y_le (by omega) (by omega)]; omega
    obtain ⟨h1, q1, q2⟩ := d162 hM hp (f_X_digest_l151 FN n') (f_M_digest_l151 FN n') (8 - (p + 1)) FN (p + 1) h (by omega) (FN_lt (by omega))
    obtain ⟨h2, w1, w2⟩ := ih n' (p + 1) h1 (by omega) (by omega)
    refine ⟨h2, ?_, ?_⟩
    · unfold f_X_digest_l151
      rw [if_neg n8, nme, y_s]
      exact q1.trans w1
    · unfold f_M_digest_l151
      rw [if_neg n8, nme, y_s]
      exact q2.trans w2
theorem d87 (V : VJ) {c n0 : Nat} {x m : Mem} (hI : Inv c n0 x m) : ∀ d n o h, o + d = 8 → d < n → ∃ h' x' m', f_X_digest_l87 FN n h (nI o) x = some (h', x') ∧ f_M_digest_l87 FN n h (nI o) m = some (h', m') ∧ Inv c n0 x' m' := by
  intro d
  induction d with
  | zero =>
    intro n o h g1 g2
    obtain ⟨n', rfl⟩ : ∃ n', n = n' + 1 := ⟨n - 1, by omega⟩
    have ho : o = 8 := by omega
    subst ho
    obtain ⟨r1, x1, m1, a1, a2, a3⟩ := run_i hI
    obtain ⟨r2, x2, m2, b1, b2, b3⟩ := winner_i a3
    obtain ⟨r3, x3, m3, c1, c2, c3⟩ := V _ _ _ _ b3
    obtain ⟨h', e1, e2⟩ := d151 c3.m 8 FN 0 (31 * (31 * (31 * h + r1.toInt64) + r2.toInt64) + r3.toInt64) (by omega) (FN_lt (by omega))
    refine ⟨h', x3, m3, ?_, ?_, c3⟩
    · unfold f_X_digest_l87
      rw [if_pos (by decide), a1, b2s, nme, b1, b2s, nme, c1, b2s, nme]
      exact e1
    · unfold f_M_digest_l87
      rw [if_pos (by decide), a2, b2s, nme, b2, b2s, nme, c2, b2s, nme]
      exact e2
  | succ d ih =>
    intro n o h g1 g2
    obtain ⟨n', rfl⟩ : ∃ n', n = n' + 1 := ⟨n - 1, by omega⟩
    have ho : o < 8 := by omega
    have n8 : ¬ (8 : Int32) ≤ nI o := by
      show ¬ nI 8 ≤ nI o
      rw [y_le (by omega) (by omega)]; omega
    obtain ⟨s, hs, e1, e2⟩ := hI.str ho
    conv => congr; intro h'; congr; intro x'; congr; intro m'; congr; lhs; unfold f_X_digest_l87
    conv => congr; intro h'; congr; intro x'; congr; intro m'; rhs; congr; lhs; unfold f_M_digest_l87
    rw [if_neg n8, if_neg n8, if_pos (ib_n ho (by omega)), if_pos (ib_n ho (by omega)), ix_n (by omega), e1, e2]
    simp only [nme, y_s]
    exact ih n' (o + 1) _ (by omega) (by omega)
theorem d43 (V : VJ) {c n0 t : Nat} {x m : Mem} (hI : Inv c n0 x m) (hn : n0 = 56 + t) : ∀ d n r h, r + d = t → d < n → ∃ h' x' m', f_X_digest_l43 FN n h (nI r) x = some (h', x') ∧ f_M_digest_l43 FN n h (nI r) m = some (h', m') ∧ Inv c n0 x' m' := by
  have hT := hI.T hn
  have t40 := hT.1
  intro d
  induction d with
  | zero =>
    intro n r h g1 g2
    obtain ⟨n', rfl⟩ : ∃ n', n = n' + 1 := ⟨n - 1, by omega⟩
    have hr : r = t := by omega
    subst hr
    obtain ⟨h', x', m', q1, q2, q3⟩ := d87 V hI 8 FN 0 h (by omega) (FN_lt (by omega))
    refine ⟨h', x', m', ?_, ?_, q3⟩
    · unfold f_X_digest_l43
      rw [hT.2.1, if_pos (by rw [y_le (by omega) (by omega)]; omega)]
      exact q1
    · unfold f_M_digest_l43
      rw [hT.2.2.1, if_pos (by rw [y_le (by omega) (by omega)]; omega)]
      exact q2
  | succ d ih =>
    intro n r h g1 g2
    obtain ⟨n', rfl⟩ : ∃ n', n = n' + 1 := ⟨n - 1, by omega⟩
    have nr : ¬ nI t ≤ nI r := by rw [y_le (by omega) (by omega)]; omega
    have er : (nI r).toInt = (r : Int) := nI_t (by omega)
    have ei : ib (nI r) 40 = true := ib_n (by omega) (by omega)
    obtain ⟨k1, k2, k3, k4, k5, k6, k7, kr⟩ := hT.2.2.2 r (by omega)
    have a4 : f_X_about x (nI r) 4 = some (gI m 6 r) := by
      unfold f_X_about
      rw [bTw hT, if_pos (by omega), er]
      simp only [Int.toNat_natCast, k6]
      rfl
    have a5 : f_X_about x (nI r) 5 = some (gI m 7 r) := by
      unfold f_X_about
      rw [bTw hT, if_pos (by omega), er]
      simp only [Int.toNat_natCast, k7]
      rfl
    conv => congr; intro h'; congr; intro x'; congr; intro m'; congr; lhs; unfold f_X_digest_l43
    conv => congr; intro h'; congr; intro x'; congr; intro m'; rhs; congr; lhs; unfold f_M_digest_l43
    rw [hT.2.1, hT.2.2.1, if_neg nr, if_neg nr, a4, a5, bs, if_pos ei, ix_n (by omega)]
    simp only [nme, y_s, bs, if_pos ei]
    exact ih n' (r + 1) _ (by omega) (by omega)
theorem d6 (V : VJ) {c n0 : Nat} {x m : Mem} (hI : Inv c n0 x m) (hc : c < 512) : ∀ d n k h, k + d = 11 → d < n → ∃ h' x' m', f_X_digest_l6 FN n h (nI k) x = some (h', x') ∧ f_M_digest_l6 FN n h (nI k) m = some (h', m') ∧ Inv c n0 x' m' := by
  intro d
  induction d with
  | zero =>
    intro n k h g1 g2
    obtain ⟨n', rfl⟩ : ∃ n', n = n' + 1 := ⟨n - 1, by omega⟩
    have hk : k = 11 := by omega
    subst hk
    have ht : ∃ t, n0 = 56 + t ∧ t ≤ 40 := by
      obtain ⟨t, ht, _, hT, _⟩ := hI
      exact ⟨t, ht, hT.1⟩
    obtain ⟨t, ht, t40⟩ := ht
    obtain ⟨h', x', m', q1, q2, q3⟩ := d43 V hI ht t FN 0 h (by omega) (FN_lt (by omega))
    refine ⟨h', x', m', ?_, ?_, q3⟩
    · unfold f_X_digest_l6
      rw [if_pos (by decide)]
      exact q1
    · unfold f_M_digest_l6
      rw [if_pos (by decide)]
      exact q2
  | succ d ih =>
    intro n k h g1 g2
    obtain ⟨n', rfl⟩ : ∃ n', n = n' + 1 := ⟨n - 1, by omega⟩
    have n1 : ¬ (10 : Int32) < nI k := by
      show ¬ nI 10 < nI k
      rw [y_lt (by omega) (by omega)]; omega
    have n2 : ¬ (11 : Int32) ≤ nI k := by
      show ¬ nI 11 ≤ nI k
      rw [y_le (by omega) (by omega)]; omega
    obtain ⟨r, r1, r2, _⟩ := s_count hI hc (nI k)
    conv => congr; intro h'; congr; intro x'; congr; intro m'; congr; lhs; unfold f_X_digest_l6
    conv => congr; intro h'; congr; intro x'; congr; intro m'; rhs; congr; lhs; unfold f_M_digest_l6
    unfold f_X_digest_b34 f_M_digest_b34
    rw [if_neg n1, if_neg n2, r1, r2, bs, bs]
    simp only [nme, y_s]
    by_cases c8 : nI k = 8
    · rw [if_neg (not_not_intro c8), if_neg (not_not_intro c8)]
      exact ih n' (k + 1) _ (by omega) (by omega)
    · rw [if_pos c8, if_pos c8]
      exact ih n' (k + 1) _ (by omega) (by omega)
/-- the digest, once the value is known to be the same -/
theorem digest_j (V : VJ) {c n : Nat} {μ1 μ2 : Mem} (h : Inv c n μ1 μ2) (hc : c < 512) : ∃ (r : Int64) (ν1 : Mem) (ν2 : Mem), f_X_digest FN μ1 = some (r, ν1) ∧ f_M_digest FN μ2 = some (r, ν2) ∧ Inv (c + 1) n ν1 ν2 := by
  obtain ⟨h', x', m', q1, q2, q3⟩ := d6 V h hc 11 FN 0 17 (by omega) (FN_lt (by omega))
  exact ⟨h', x', m', q1, q2, Inv_next q3⟩

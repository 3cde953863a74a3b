theorem kp1 : ∀ k, k < 42 → ¬ (nI (k + 1)).toInt64 = 0 := by decide +kernel
theorem doubtX_l {x : Mem} {n s : Nat} (hn : n < 41) : ∀ d N' k w ch, k + d = n + 1 → d < N' → f_Pa_doubt_l21 FN x N' (nI n) (nI s) w ch (nI k) = some (finX n (wF n s d k w ch)) := by
  intro d
  induction d with
  | zero =>
    intro N' k w ch h1 h2
    obtain ⟨n', rfl⟩ : ∃ n', N' = n' + 1 := ⟨N' - 1, by omega⟩
    unfold f_Pa_doubt_l21 wF finX
    rw [if_pos (by rw [y_lt (by omega) (by omega)]; omega)]
  | succ d ih =>
    intro N' k w ch h1 h2
    obtain ⟨n', rfl⟩ : ∃ n', N' = n' + 1 := ⟨N' - 1, by omega⟩
    unfold f_Pa_doubt_l21 wF
    unfold f_Pa_doubt_b41
    rw [if_neg (by rw [y_lt (by omega) (by omega)]; omega)]
    simp only [nme, y_s, if_neg (kp1 k (by omega))]
    by_cases c : nI k < nI s
    · rw [if_pos c, if_pos c]
      exact ih n' (k + 1) _ _ (by omega) (by omega)
    · rw [if_neg c, if_neg c]
      exact ih n' (k + 1) _ _ (by omega) (by omega)
theorem doubtM_l {m : Mem} {n s : Nat} (hn : n < 41) (h53 : gI m 0 53 = nI n) (h52 : gI m 0 52 = nI s) : ∀ d N' k w ch, k + d = n + 1 → d < N' → f_M_doubt_l7 FN m N' ch w (nI k) = some (finM n (wF n s d k w ch)) := by
  intro d
  induction d with
  | zero =>
    intro N' k w ch h1 h2
    obtain ⟨n', rfl⟩ : ∃ n', N' = n' + 1 := ⟨N' - 1, by omega⟩
    unfold f_M_doubt_l7 wF finM
    rw [h53, if_pos (by rw [y_lt (by omega) (by omega)]; omega), if_neg (fin_1 n hn)]
  | succ d ih =>
    intro N' k w ch h1 h2
    obtain ⟨n', rfl⟩ : ∃ n', N' = n' + 1 := ⟨N' - 1, by omega⟩
    unfold f_M_doubt_l7 wF
    unfold f_M_doubt_b31
    rw [h53, h52, if_neg (by rw [y_lt (by omega) (by omega)]; omega)]
    simp only [nme, y_s, if_neg (kp1 k (by omega))]
    by_cases c : nI k < nI s
    · rw [if_pos c, if_pos c]
      exact ih n' (k + 1) _ _ (by omega) (by omega)
    · rw [if_neg c, if_neg c]
      exact ih n' (k + 1) _ _ (by omega) (by omega)
def sd (m : Mem) (v : Int32) (r : Nat) (w : Int32) : Int32 := if gI m 36 r = v then w else -w
def suR (m : Mem) (v : Int32) : Nat → Nat → Nat
  | _, 0 => 0
  | r, d + 1 => (if spQ m v r then (if sd m v r (duV m (fa m r) (sb m r)) ≤ sd m v r (gI m 38 r) then 0 else 1) else 0) + suR m v (r + 1) d
def chR (m : Mem) (v : Int32) : Nat → Nat → Nat
  | _, 0 => 0
  | r, d + 1 => (if spQ m v r then (if sd m v r (duV m (fa m r) (sb m r)) ≤ -1 then 0 else 1) else 0) + chR m v (r + 1) d
def asR (m : Mem) (v : Int32) : Nat → Nat → Nat
  | _, 0 => 0
  | r, d + 1 => (if spQ m v r then (if duV m (fa m r) (sb m r) = gI m 38 r then 1 else 0) else 0) + asR m v (r + 1) d
theorem suR_b (m : Mem) (v : Int32) : ∀ d r, suR m v r d ≤ d
  | 0, _ => by unfold suR; omega
  | d + 1, r => by
    unfold suR
    have := suR_b m v d (r + 1)
    split
    · split <;> omega
    · omega
theorem chR_b (m : Mem) (v : Int32) : ∀ d r, chR m v r d ≤ d
  | 0, _ => by unfold chR; omega
  | d + 1, r => by
    unfold chR
    have := chR_b m v d (r + 1)
    split
    · split <;> omega
    · omega
theorem asR_b (m : Mem) (v : Int32) : ∀ d r, asR m v r d ≤ d
  | 0, _ => by unfold asR; omega
  | d + 1, r => by
    unfold asR
    have := asR_b m v d (r + 1)
    split
    · split <;> omega
    · omega
theorem sided_e {K t r : Nat} {x m : Mem} (h : hPa K t x m) (hr : r < K) (w v : Int32) : f_Pa_sided x w (nI r) v = some (sd m v r w) := by
  obtain ⟨h1, h0, h2, h3, h4⟩ := h
  obtain ⟨k1, k2, k4, k5, k6, k7, k8, k9⟩ := h4 r hr
  unfold f_Pa_sided sd
  rw [if_pos (ib_n (show r < 40 by omega) (by omega)), ix_n (by omega), k4, k5]
  by_cases c : nI (fa m r) = v
  · rw [if_neg (not_not_intro c), if_pos c]
  · rw [if_pos c, if_neg c]
theorem surX {K t : Nat} {x m : Mem} {v : Int32} (h : hPa K t x m) (hE : ∀ r, r < K → spQ m v r → gI x 38 r = duV m (fa m r) (sb m r)) : ∀ d n i u, i + d = K → d < n → f_Pa_surprises_l4 FN x n v (nI u) (nI i) = some (nI (u + suR m v i d)) := by
  have hK := h.1
  intro d
  induction d with
  | zero =>
    intro n i u g1 g2
    obtain ⟨n', rfl⟩ : ∃ n', n = n' + 1 := ⟨n - 1, by omega⟩
    have hi : i = K := by omega
    subst hi
    unfold f_Pa_surprises_l4 suR
    rw [h.2.2.1, if_pos (by rw [y_le (by omega) (by omega)]; omega)]; rfl
  | succ d ih =>
    intro n i u g1 g2
    obtain ⟨n', rfl⟩ : ∃ n', n = n' + 1 := ⟨n - 1, by omega⟩
    have hi : i < K := by omega
    have ei : ib (nI i) 40 = true := ib_n (by omega) (by omega)
    obtain ⟨s1, s2⟩ := speaks_e h hi v
    have k8 := (h.2.2.2.2 i hi).2.2.2.2.2.2.1
    unfold f_Pa_surprises_l4 suR
    unfold f_Pa_surprises_b51
    rw [h.2.2.1, if_neg (show ¬ nI K ≤ nI i by rw [y_le (by omega) (by omega)]; omega)]
    simp only [nme, y_s]
    by_cases c0 : spQ m v i
    · rw [s1 c0, bs, if_neg (by decide), if_pos ei, ix_n (by omega), k8, hE i hi c0, sided_e h hi, bs, if_pos ei, sided_e h hi, bs, if_pos c0]
      by_cases c1 : sd m v i (duV m (fa m i) (sb m i)) ≤ sd m v i (gI m 38 i)
      · rw [if_pos c1, if_pos c1, ih n' (i + 1) u (by omega) (by omega), Nat.zero_add]
      · rw [if_neg c1, if_neg c1, ih n' (i + 1) (u + 1) (by omega) (by omega), Nat.add_assoc]
    · rw [s2 c0, bs, if_pos rfl, if_neg c0, ih n' (i + 1) u (by omega) (by omega), Nat.zero_add]
theorem chaX {K t : Nat} {x m : Mem} {v : Int32} (h : hPa K t x m) (hE : ∀ r, r < K → spQ m v r → gI x 38 r = duV m (fa m r) (sb m r)) : ∀ d n i u, i + d = K → d < n → f_Pa_chances_l4 FN x n v (nI u) (nI i) = some (nI (u + chR m v i d)) := by
  have hK := h.1
  intro d
  induction d with
  | zero =>
    intro n i u g1 g2
    obtain ⟨n', rfl⟩ : ∃ n', n = n' + 1 := ⟨n - 1, by omega⟩
    have hi : i = K := by omega
    subst hi
    unfold f_Pa_chances_l4 chR
    rw [h.2.2.1, if_pos (by rw [y_le (by omega) (by omega)]; omega)]; rfl
  | succ d ih =>
    intro n i u g1 g2
    obtain ⟨n', rfl⟩ : ∃ n', n = n' + 1 := ⟨n - 1, by omega⟩
    have hi : i < K := by omega
    have ei : ib (nI i) 40 = true := ib_n (by omega) (by omega)
    obtain ⟨s1, s2⟩ := speaks_e h hi v
    unfold f_Pa_chances_l4 chR
    unfold f_Pa_chances_b40
    rw [h.2.2.1, if_neg (show ¬ nI K ≤ nI i by rw [y_le (by omega) (by omega)]; omega)]
    simp only [nme, y_s]
    by_cases c0 : spQ m v i
    · rw [s1 c0, bs, if_neg (by decide), if_pos ei, ix_n (by omega), hE i hi c0, sided_e h hi, bs, if_pos c0]
      by_cases c1 : sd m v i (duV m (fa m i) (sb m i)) ≤ -1
      · rw [if_pos c1, if_pos c1, ih n' (i + 1) u (by omega) (by omega), Nat.zero_add]
      · rw [if_neg c1, if_neg c1, ih n' (i + 1) (u + 1) (by omega) (by omega), Nat.add_assoc]
    · rw [s2 c0, bs, if_pos rfl, if_neg c0, ih n' (i + 1) u (by omega) (by omega), Nat.zero_add]
def fwM (a k : Nat) : Prop := fbM a k ∧ ¬ (a = 0 ∧ (k = 52 ∨ k = 53))
theorem fwM_per {x x' : Mem} (e : EqOn fwM x x') : EqOn perM x x' := e.mono (fun a k p => by
  unfold perM at p; unfold fwM fbM
  unfold qCs qTop qStr qBow qDen qBou qWhi qCho qPas qGam qLas qMet qFin qShe at p
  omega)
theorem i1m (w : Int32) : (1 : Int32) * w = w := by grind
theorem im1 (w : Int32) : (-1 : Int32) * w = -w := by grind
theorem findM {c n0 K t : Nat} {x0 m0 : Mem} {v : Int32} (hv : ¬ v = -1) (h : Inv c n0 x0 m0) (hn : n0 = 56 + t) (hp : hPa K t x0 m0) : ∀ d n i m u w, i + d = K → d < n → EqOn fwM m0 m → gI m 0 52 = nI u → gI m 0 53 = nI w → ∃ m', f_M_findWorn_l12 FN n v (nI i) m = some m' ∧ EqOn fwM m0 m' ∧ gI m' 0 52 = nI (u + suR m0 v i d) ∧ gI m' 0 53 = nI (w + chR m0 v i d) := by
  obtain ⟨h1, h0, h2, h3, h4⟩ := id hp
  intro d
  induction d with
  | zero =>
    intro n i m u w g1 g2 g3 g4 g5
    obtain ⟨n', rfl⟩ : ∃ n', n = n' + 1 := ⟨n - 1, by omega⟩
    have hi : i = K := by omega
    subst hi
    refine ⟨m, ?_, g3, g4, g5⟩
    unfold f_M_findWorn_l12
    rw [(g3 0 48 (by unfold fwM fbM; omega)).1, h3, if_pos (by rw [y_le (by omega) (by omega)]; omega)]
  | succ d ih =>
    intro n i m u w g1 g2 g3 g4 g5
    obtain ⟨n', rfl⟩ : ∃ n', n = n' + 1 := ⟨n - 1, by omega⟩
    have hi : i < K := by omega
    have ei : ib (nI i) 40 = true := ib_n (by omega) (by omega)
    have em : ∀ a k, 36 ≤ a → gI m a k = gI m0 a k := fun a k ha => (g3 a k (by unfold fwM fbM; omega)).1
    have efa : fa m i = fa m0 i := by unfold fa; rw [em 36 i (by omega)]
    have esb : sb m i = sb m0 i := by unfold sb; rw [em 37 i (by omega)]
    have hpm : hPa K t x0 m := by
      refine ⟨h1, h0, h2, by rw [(g3 0 48 (by unfold fwM fbM; omega)).1]; exact h3, fun r hr => ?_⟩
      have efa : fa m r = fa m0 r := by unfold fa; rw [em 36 r (by omega)]
      have esb : sb m r = sb m0 r := by unfold sb; rw [em 37 r (by omega)]
      rw [efa, esb, em 36 r (by omega), em 37 r (by omega), em 38 r (by omega)]
      exact h4 r hr
    obtain ⟨s1, s2⟩ := isOf_e hpm hi hv
    have esp : spQ m v i ↔ spQ m0 v i := by
      unfold spQ
      rw [em 36 i (by omega), em 37 i (by omega), em 38 i (by omega)]
    obtain ⟨k1, k2, k4, k5, k6, k7, k8, k9⟩ := h4 i hi
    conv => congr; intro m'; lhs; lhs; unfold f_M_findWorn_l12
    unfold f_M_findWorn_b44 f_M_findWorn_b88 f_M_findWorn_b108 f_M_findWorn_b112
    rw [(g3 0 48 (by unfold fwM fbM; omega)).1, h3, if_neg (show ¬ nI K ≤ nI i by rw [y_le (by omega) (by omega)]; omega)]
    unfold suR chR
    by_cases c0 : spQ m0 v i
    · obtain ⟨x1, m1, w1, w2, w3, w4, w5⟩ := du_e h hn EqOn.rf (fwM_per g3) k1 k2
      have m1e : gI m1 38 i = gI m0 38 i := by rw [(w5 38 i (by unfold fbM; omega)).1]; exact em 38 i (by omega)
      have m52 : gI m1 0 52 = nI u := by rw [(w5 0 52 (by unfold fbM; omega)).1]; exact g4
      have m53 : gI m1 0 53 = nI w := by rw [(w5 0 53 (by unfold fbM; omega)).1]; exact g5
      rw [s1 (esp.mpr c0), bs, if_neg (by decide), if_pos ei, ix_n (by omega), em 36 i (by omega), em 37 i (by omega)]
      have w2' : f_M_expectedOf FN m (gI m0 36 i) (gI m0 37 i) = some (duV m0 (fa m0 i) (sb m0 i), m1) := by rw [k5, k7]; exact w2
      simp only [if_pos ei, w2', b2s, nme, y_s, m1e, m52, if_pos c0]
      have go : ∀ p q : Nat, ∃ m', f_M_findWorn_l12 FN n' v (nI (i + 1)) (sI (sI m1 0 52 (nI (u + p))) 0 53 (nI (w + q))) = some m' ∧ EqOn fwM m0 m' ∧ gI m' 0 52 = nI (u + (p + suR m0 v (i + 1) d)) ∧ gI m' 0 53 = nI (w + (q + chR m0 v (i + 1) d)) := by
        intro p q
        obtain ⟨m', r1, r2, r3, r4⟩ := ih n' (i + 1) (sI (sI m1 0 52 (nI (u + p))) 0 53 (nI (w + q))) (u + p) (w + q) (by omega) (by omega) ((((g3.tr (w5.mono (fun a k z => z.1)))).sI (by unfold fwM; omega)).sI (by unfold fwM; omega)) rfl rfl
        exact ⟨m', r1, r2, by rw [r3, Nat.add_assoc], by rw [r4, Nat.add_assoc]⟩
      have e53 : ∀ z, gI (sI m1 0 52 z) 0 53 = nI w := fun z => m53
      have p0 : ∀ z : Nat, nI z + 0 = nI (z + 0) := fun z => Int32.add_zero _
      have p1 : ∀ z : Nat, nI z + 1 = nI (z + 1) := fun z => y_s z
      have key : ∀ sg : Int32, (∀ z, sg * z = sd m0 v i z) → ∃ m', (if sg * duV m0 (fa m0 i) (sb m0 i) ≤ sg * gI m0 38 i then (if sg * duV m0 (fa m0 i) (sb m0 i) ≤ -1 then f_M_findWorn_l12 FN n' v (nI (i + 1)) (sI (sI m1 0 52 (nI u + 0)) 0 53 (gI (sI m1 0 52 (nI u + 0)) 0 53 + 0)) else f_M_findWorn_l12 FN n' v (nI (i + 1)) (sI (sI m1 0 52 (nI u + 0)) 0 53 (gI (sI m1 0 52 (nI u + 0)) 0 53 + 1))) else (if sg * duV m0 (fa m0 i) (sb m0 i) ≤ -1 then f_M_findWorn_l12 FN n' v (nI (i + 1)) (sI (sI m1 0 52 (nI (u + 1))) 0 53 (gI (sI m1 0 52 (nI (u + 1))) 0 53 + 0)) else f_M_findWorn_l12 FN n' v (nI (i + 1)) (sI (sI m1 0 52 (nI (u + 1))) 0 53 (gI (sI m1 0 52 (nI (u + 1))) 0 53 + 1)))) = some m' ∧ EqOn fwM m0 m' ∧ gI m' 0 52 = nI (u + ((if sd m0 v i (duV m0 (fa m0 i) (sb m0 i)) ≤ sd m0 v i (gI m0 38 i) then 0 else 1) + suR m0 v (i + 1) d)) ∧ gI m' 0 53 = nI (w + ((if sd m0 v i (duV m0 (fa m0 i) (sb m0 i)) ≤ -1 then 0 else 1) + chR m0 v (i + 1) d)) := by
        intro sg hsg
        rw [hsg, hsg]
        simp only [e53, p0, p1]
        by_cases z1 : sd m0 v i (duV m0 (fa m0 i) (sb m0 i)) ≤ sd m0 v i (gI m0 38 i)
        · by_cases z2 : sd m0 v i (duV m0 (fa m0 i) (sb m0 i)) ≤ -1
          · simp only [if_pos z1, if_pos z2]; exact go 0 0
          · simp only [if_pos z1, if_neg z2]; exact go 0 1
        · by_cases z2 : sd m0 v i (duV m0 (fa m0 i) (sb m0 i)) ≤ -1
          · simp only [if_neg z1, if_pos z2]; exact go 1 0
          · simp only [if_neg z1, if_neg z2]; exact go 1 1
      by_cases z0 : gI m0 36 i = v
      · rw [if_neg (not_not_intro z0)]
        exact key 1 (fun z => by unfold sd; rw [if_pos z0]; exact i1m z)
      · rw [if_pos z0]
        exact key (-1) (fun z => by unfold sd; rw [if_neg z0]; exact im1 z)
    · rw [s2 (fun q => c0 (esp.mp q)), bs, if_pos rfl, nme, y_s, if_neg c0, if_neg c0, Nat.zero_add, Nat.zero_add]
      exact ih n' (i + 1) m u w (by omega) (by omega) g3 g4 g5
theorem hPa.K {c n : Nat} {x m : Mem} (h : Inv c n x m) {t : Nat} (hn : n = 56 + t) : iTop t x m ∧ ∃ K, hPa K t x m := by
  obtain ⟨t', ht, hCs, hTop, hWr, hStr, hBow, hDen, hBou, hWhi, hCho, hPas, hGam, hLas, hMet, hFin, hShe⟩ := h
  have e : t' = t := by omega
  subst e
  exact ⟨hTop, hPas.h hTop.1⟩
/-- what both sides find of a top -/
theorem wornX {c n K t : Nat} {x m x' : Mem} {v u : Int32} (h : Inv c n x m) (hp : hPa K t x m) (e : EqOn foX x x') (hu : u = -1 ∨ u = v) (hE : ∀ r, r < K → spQ m u r → gI x' 38 r = duV m (fa m r) (sb m r)) : f_Pa_surprises FN x' v = some (nI (suR m v 0 K)) ∧ f_Pa_chances FN x' v = some (nI (chR m v 0 K)) ∧ f_Pa_doubt FN x' v = some (finX (chR m v 0 K) (wF (chR m v 0 K) (suR m v 0 K) (chR m v 0 K + 1) 0 0 1)) := by
  have hp' := hp.cx e
  have hK := hp.1
  have hE' : ∀ r, r < K → spQ m v r → gI x' 38 r = duV m (fa m r) (sb m r) := fun r hr hs => hE r hr (by
    rcases hu with q | q
    · exact ⟨hs.1, Or.inl q⟩
    · rw [q]; exact hs)
  have s := surX hp' hE' K FN 0 0 (by omega) (FN_lt (by omega))
  have ch := chaX hp' hE' K FN 0 0 (by omega) (FN_lt (by omega))
  rw [Nat.zero_add] at s ch
  have s' : f_Pa_surprises FN x' v = some (nI (suR m v 0 K)) := s
  have ch' : f_Pa_chances FN x' v = some (nI (chR m v 0 K)) := ch
  have b := chR_b m v K 0
  refine ⟨s', ch', ?_⟩
  unfold f_Pa_doubt
  rw [ch', bs, s', bs]
  exact doubtX_l (by omega) (chR m v 0 K + 1) FN 0 0 1 (by omega) (FN_lt (by omega))
theorem wornM {c n K t : Nat} {x m m1 : Mem} {v : Int32} (hv : ¬ v = -1) (h : Inv c n x m) (hn : n = 56 + t) (hp : hPa K t x m) (e : EqOn fwM m m1) : ∃ m', f_M_findWorn FN m1 v = some m' ∧ EqOn fwM m m' ∧ gI m' 0 52 = nI (suR m v 0 K) ∧ gI m' 0 53 = nI (chR m v 0 K) ∧ f_M_doubt FN m' = some (finM (chR m v 0 K) (wF (chR m v 0 K) (suR m v 0 K) (chR m v 0 K + 1) 0 0 1)) := by
  have hK := hp.1
  have b := chR_b m v K 0
  obtain ⟨m', q1, q2, q3, q4⟩ := findM hv h hn hp K FN 0 (sI (sI m1 0 52 0) 0 53 0) 0 0 (by omega) (FN_lt (by omega)) ((e.sI (by unfold fwM; omega)).sI (by unfold fwM; omega)) rfl rfl
  rw [Nat.zero_add] at q3 q4
  refine ⟨m', ?_, q2, q3, q4, ?_⟩
  · unfold f_M_findWorn
    rw [nme, nme]
    exact q1
  · exact doubtM_l (by omega) q4 q3 (chR m v 0 K + 1) FN 0 0 1 (by omega) (FN_lt (by omega))
theorem s_worn {c n : Nat} {μ1 μ2 : Mem} (h : Inv c n μ1 μ2) (hc : c < 512) (a1 : Int32) (a2 : Int32) : ∃ (r : Int32) (ν1 : Mem) (ν2 : Mem), f_X_worn FN μ1 a1 a2 = some (r, ν1) ∧ f_M_worn FN μ2 a1 a2 = some (r, ν2) ∧ Inv (c + 1) n ν1 ν2 := by
  obtain ⟨t, ht, hCs, hTop, hWr, hStr, hBow, hDen, hBou, hWhi, hCho, hPas, hGam, hLas, hMet, hFin, hShe⟩ := id h
  obtain ⟨K, hp⟩ := hPas.h hTop.1
  have t40 := hTop.1
  have hK := hp.1
  unfold f_X_worn f_M_worn
  rw [bTw hTop, bTn hTop]
  by_cases c1 : 0 ≤ a1.toInt ∧ a1.toInt < (t : Int)
  · rw [if_pos c1, if_pos c1]
    simp only [bw, bn2, bOw, bOn, nme, b2s, bs, zn10, zn01, ze10, ze00, ze01, ze11, if_true, if_false, not_true_eq_false, not_false_eq_true, l32_0, l32_1, l32_2, l32_3, l32_4, l32_5, l32_7, l32_8, l32_9, l32_12, l32_20, l32_24, l32_25, l32_30, l32_31, l32_35, l32_40, l32_50, l32_60, l32_100, l32_120, l32_200, l32_255, l32_400, l32_m1, l32_m9, l32_m20, l32_m30, l32_m31, l64_0, l64_1, l64_2, l64_3, l64_4, l64_5, l64_7, l64_8, l64_9, l64_12, l64_20, l64_24, l64_25, l64_30, l64_31, l64_35, l64_40, l64_50, l64_60, l64_100, l64_120, l64_200, l64_255, l64_400, l64_m1, l64_m9, l64_m20, l64_m30, l64_m31]
    by_cases c2 : 0 ≤ a2.toInt ∧ a2.toInt ≤ 2
    · rw [if_pos c2, if_pos c2]
      have hv : ¬ a1 = -1 := fun q => by rw [q, show (-1 : Int32).toInt = -1 from rfl] at c1; omega
      obtain ⟨x', q1, q2, q3⟩ := fore_l a1 h ht hp K FN 0 μ1 (by omega) (FN_lt (by omega)) EqOn.rf (fun r hr => absurd hr (by omega))
      have q1' : f_X_foretellRows FN μ1 a1 = some x' := q1
      obtain ⟨w1, w2, w3⟩ := wornX h hp q2 (Or.inr rfl) q3
      obtain ⟨m', r1, r2, r3, r4, r5⟩ := wornM hv h ht hp EqOn.rf
      have hI : Inv (c + 1) n x' m' := Inv_next (h.cg0 (foX_per q2) (fwM_per r2))
      rw [q1', bs, r1, bs]
      by_cases d0 : a2 = 0
      · rw [if_pos d0, if_neg (not_not_intro d0), w1, bs, r3]
        exact ⟨_, _, _, rfl, rfl, hI⟩
      · rw [if_neg d0, if_pos d0]
        by_cases d1 : a2 = 1
        · rw [if_pos d1, if_neg (not_not_intro d1), w2, bs, r4]
          exact ⟨_, _, _, rfl, rfl, hI⟩
        · have b1 := chR_b μ2 a1 K 0
          have b2 := suR_b μ2 a1 K 0
          rw [if_neg d1, if_pos d1, w3, bs, r5, bs, (fin_2 _ (show chR μ2 a1 0 K < 41 by omega) _ (show suR μ2 a1 0 K < 41 by omega)).1]
          exact ⟨_, _, _, rfl, rfl, hI⟩
    · rw [if_neg c2, if_neg c2]
      exact ⟨_, _, _, rfl, rfl, Inv_next h⟩
  · rw [if_neg c1, if_neg c1]
    exact ⟨_, _, _, rfl, rfl, Inv_next h⟩
theorem most_l {c n K t : Nat} {x m x' : Mem} (h : Inv c n x m) (hn : n = 56 + t) (hT : iTop t x m) (hp : hPa K t x m) (e : EqOn foX x x') (hE : ∀ r, r < K → spQ m (-1) r → gI x' 38 r = duV m (fa m r) (sb m r)) : ∀ d nn i b1 b2 b3 m1, i + d = t → d < nn → EqOn fwM m m1 → ((b1 = -1 ∧ b2 = 1000001) ∨ (¬ b1 = -1 ∧ b2 = b3)) → ∃ r m', f_X_most_l13 FN nn b1 b2 (nI i) x' = some (r, x') ∧ f_M_most_l6 FN nn b1 b3 (nI i) m1 = some (r, m') ∧ EqOn fwM m m' := by
  have t40 := hT.1
  have hK := hp.1
  intro d
  induction d with
  | zero =>
    intro nn i b1 b2 b3 m1 g1 g2 g3 g4
    obtain ⟨n', rfl⟩ : ∃ n', nn = n' + 1 := ⟨nn - 1, by omega⟩
    have hi : i = t := by omega
    subst hi
    refine ⟨b1, m1, ?_, ?_, g3⟩
    · unfold f_X_most_l13
      rw [(e 0 1 (by unfold foX dlX; omega)).1, hT.2.1, if_pos (by rw [y_le (by omega) (by omega)]; omega)]
    · unfold f_M_most_l6
      rw [(g3 0 1 (by unfold fwM fbM; omega)).1, hT.2.2.1, if_pos (by rw [y_le (by omega) (by omega)]; omega)]
  | succ d ih =>
    intro nn i b1 b2 b3 m1 g1 g2 g3 g4
    obtain ⟨n', rfl⟩ : ∃ n', nn = n' + 1 := ⟨nn - 1, by omega⟩
    have hi : i < t := by omega
    have hv : ¬ nI i = -1 := fun q => by
      have := congrArg Int32.toInt q
      rw [nI_t (by omega), show (-1 : Int32).toInt = -1 from rfl] at this; omega
    obtain ⟨w1, w2, w3⟩ := wornX (v := nI i) h hp e (Or.inl rfl) hE
    obtain ⟨m', r1, r2, r3, r4, r5⟩ := wornM hv h hn hp g3
    have cb := chR_b m (nI i) K 0
    have sbb := suR_b m (nI i) K 0
    obtain ⟨f1, f2⟩ := fin_2 _ (show chR m (nI i) 0 K < 41 by omega) _ (show suR m (nI i) 0 K < 41 by omega)
    rw [← f1] at r5
    have nt : ¬ nI t ≤ nI i := by rw [y_le (by omega) (by omega)]; omega
    conv => congr; intro r; congr; intro m'; congr; lhs; unfold f_X_most_l13
    conv => congr; intro r; congr; intro m'; rhs; congr; lhs; unfold f_M_most_l6
    unfold f_X_most_b55 f_M_most_b39 f_M_most_b46
    rw [(e 0 1 (by unfold foX dlX; omega)).1, hT.2.1, (g3 0 1 (by unfold fwM fbM; omega)).1, hT.2.2.1, if_neg nt, if_neg nt, w2, bs, r1, bs, r4]
    simp only [nme, y_s, w3, r5, bs]
    by_cases z0 : nI (chR m (nI i) 0 K) ≤ 0
    · rw [if_pos z0, if_pos z0]
      exact ih n' (i + 1) b1 b2 b3 m' (by omega) (by omega) r2 g4
    rw [if_neg z0, if_neg z0]
    generalize finX (chR m (nI i) 0 K) (wF (chR m (nI i) 0 K) (suR m (nI i) 0 K) (chR m (nI i) 0 K + 1) 0 0 1) = D at f2 ⊢
    rcases g4 with ⟨p1, p2⟩ | ⟨p1, p2⟩
    · rw [if_pos p1, if_neg (by rw [p2, Int32.le_iff_toInt_le, show (1000001 : Int32).toInt = 1000001 from rfl]; omega)]
      exact ih n' (i + 1) _ _ _ m' (by omega) (by omega) r2 (Or.inr ⟨hv, rfl⟩)
    · rw [if_neg p1, p2]
      by_cases z1 : b3 ≤ D
      · rw [if_pos z1, if_pos z1]
        exact ih n' (i + 1) _ _ _ m' (by omega) (by omega) r2 (Or.inr ⟨p1, rfl⟩)
      · rw [if_neg z1, if_neg z1]
        exact ih n' (i + 1) _ _ _ m' (by omega) (by omega) r2 (Or.inr ⟨hv, rfl⟩)
theorem s_most {c n : Nat} {μ1 μ2 : Mem} (h : Inv c n μ1 μ2) (hc : c < 512) : ∃ (r : Int32) (ν1 : Mem) (ν2 : Mem), f_X_most FN μ1 = some (r, ν1) ∧ f_M_most FN μ2 = some (r, ν2) ∧ Inv (c + 1) n ν1 ν2 := by
  obtain ⟨t, ht, hCs, hTop, hWr, hStr, hBow, hDen, hBou, hWhi, hCho, hPas, hGam, hLas, hMet, hFin, hShe⟩ := id h
  obtain ⟨K, hp⟩ := hPas.h hTop.1
  have t40 := hTop.1
  have hK := hp.1
  obtain ⟨x', q1, q2, q3⟩ := fore_l (-1) h ht hp K FN 0 μ1 (by omega) (FN_lt (by omega)) EqOn.rf (fun r hr => absurd hr (by omega))
  have q1' : f_X_foretellRows FN μ1 (-1) = some x' := q1
  obtain ⟨r, m', w1, w2, w3⟩ := most_l h ht hTop hp q2 q3 t FN 0 (-1) 1000001 0 μ2 (by omega) (FN_lt (by omega)) EqOn.rf (Or.inl ⟨rfl, rfl⟩)
  refine ⟨r, x', m', ?_, ?_, Inv_next (h.cg0 (foX_per q2) (fwM_per w3))⟩
  · unfold f_X_most
    rw [q1', bs]
    exact w1
  · unfold f_M_most
    exact w2

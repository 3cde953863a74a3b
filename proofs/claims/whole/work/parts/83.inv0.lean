/-! The two objects, just made. -/
def chkI (x m : Mem) : Bool :=
  (List.range 36).all (fun h => decide (gI m 1 h = csT.getD h 0)) &&
  (decide (gI x 0 1 = 0) && (decide (gI m 0 1 = 0) &&
  ((List.range 40).all (fun i => decide (gI m 7 i = 0)) &&
  ((List.range 8).all (fun o => decide (gI x 4 o = 100) && decide (gI m 8 o = 100)) &&
  (decide (gI x 2 0 = 12) && (decide (gI m 0 9 = 12) && (decide (gI x 2 1 = 4) && (decide (gI m 0 10 = 4) &&
  (decide (gI x 2 2 = 0) && (decide (gI m 0 11 = 0) &&
  (decide (gI x 5 1 = 0) && (decide (gI m 0 15 = 0) && (decide (gI x 5 5 = 0) && (decide (gI m 0 21 = 0) &&
  (decide (gI x 23 0 = 0) && (decide (gI m 0 37 = 0) && (decide (gI x 23 1 = 0) && (decide (gI m 0 38 = 0) &&
  ((List.range 4).all (fun i => (List.range 4).all (fun j => decide (gI x (27 + i) j = 0))) &&
  (decide (gI x 34 0 = 0) && (decide (gI m 0 48 = 0) && (decide (gI x 39 0 = 0) && (decide (gI m 0 55 = 0) &&
  ((List.range 4).all (fun k => decide (gI x 42 k = gI m 41 k)) &&
  ((List.range 64).all (fun k => decide (gI x 43 k = 0) && decide (gI m 42 k = 0)) &&
  (decide (gI x 0 13 = gI m 0 66) &&
  (List.range 4).all (fun s => decide (gI x (48 + 2 * s) 2 = 0) && (decide (gI m 46 s = 0) && (decide (gI x (48 + 2 * s) 0 = 1) && decide (gI m 45 s = -1))))))))))))))))))))))))))))))
theorem inv0 {x m : Mem} (h : chkI x m = true) (h3 : ∀ q, q < 3969 → gI x 3 q = 0) : Inv 0 56 x m := by
  unfold chkI at h
  simp only [Bool.and_eq_true, decide_eq_true_eq, List.all_eq_true, List.mem_range] at h
  obtain ⟨a1, a2, a3, a4, a5, a6, a7, a8, a9, a10, a11, a12, a13, a14, a15, a16, a17, a18, a19, a20, a21, a22, a23, a24, a25, a26, a27, a28⟩ := h
  refine ⟨0, rfl, a1, ⟨by omega, a2, a3, fun i hi => by omega⟩, fun i _ hi => a4 i hi, fun o ho => ⟨?_, ?_⟩, ⟨?_, ?_, ?_, ?_⟩, ⟨0, by omega, a10, a11, fun k hk => by omega, fun q hq => ?_⟩, ⟨0, by omega, a12, a13, fun i hi => by omega⟩, ⟨0, by omega, a14, a15, fun i hi => by omega⟩, ⟨0, 0, by omega, by omega, a16, a17, a18, a19, fun i hi => by omega, fun i hi => by omega, fun i j hi => by omega, fun i j hi hj _ => a20 i hi j hj⟩, ⟨0, by omega, a21, a22, fun i hi => by omega⟩, ⟨0, by omega, a23, a24, fun i hi => by omega⟩, a25, fun k hk => ⟨?_, ?_⟩, a27, fun s hs => ⟨0, by omega, (a28 s hs).1, (a28 s hs).2.1, Or.inr (a28 s hs).2.2, fun i hi => by omega⟩⟩
  · rw [(a5 o ho).1, (a5 o ho).2]
  · rw [(a5 o ho).2]
    unfold bt
    decide
  · rw [a6, a7]
  · rw [a8, a9]
  · rw [a7]
    unfold bt
    decide
  · rw [a9]
    unfold bt
    decide
  · rw [h3 q hq]
    rfl
  · rw [(a26 k hk).1, (a26 k hk).2]
  · rw [(a26 k hk).2]
    unfold bt
    decide
def chkSX (x : Mem) : Bool := (List.range 56).all (fun a => (List.range 67).all (fun j => !(stt (kdX a) j) || ((decide (12 < kdX a) && decide (lnX a ≤ j)) || decide (gR x a j = some (srX a j)))))
def chkSM (m : Mem) : Bool := (List.range 49).all (fun a => (List.range 67).all (fun j => !(stt (kdM a) j) || ((decide (12 < kdM a) && decide (lnM a ≤ j)) || decide (gR m a j = some (srM a j)))))
def chk3 (x : Mem) : Bool := (List.range 63).all (fun a => (List.range 63).all (fun b => decide (gI x 3 (63 * a + b) = 0)))
theorem stt_b {k j : Nat} (h : stt k j = true) (hj : 67 ≤ j) : k = 13 ∨ k = 14 ∨ k = 16 := by
  unfold stt at h
  split at h
  all_goals first | omega | (cases h; done)
theorem klX : ∀ a, a < 56 → lnX a ≤ 4 ∨ ¬ (kdX a = 13 ∨ kdX a = 14 ∨ kdX a = 16) := by decide +kernel
theorem klM : ∀ a, a < 49 → ¬ (kdM a = 13 ∨ kdM a = 14 ∨ kdM a = 16) := by decide +kernel
theorem stX0 {x : Mem} (h : chkSX x = true) {Y : Lay} (h1 : ykd Y = kdX) (h2 : yln Y = lnX) (h3 : ysr Y = srX) (h4 : yn Y = 56) : St Y x := by
  intro _ a j ha hs hl
  rw [h1] at hs hl
  rw [h2] at hl
  rw [h3]
  rw [h4] at ha
  have hj : j < 67 := by
    refine Nat.lt_of_not_le fun c => ?_
    have k := stt_b hs c
    have k2 := klX a ha
    have k3 := hl (by omega)
    rcases k2 with k2 | k2
    · omega
    · exact k2 k
  unfold chkSX at h
  simp only [List.all_eq_true, List.mem_range, Bool.or_eq_true, Bool.and_eq_true, decide_eq_true_eq] at h
  rcases h a ha j hj with q | q | q
  · rw [hs] at q
    cases q
  · have k3 := hl q.1
    omega
  · exact q
theorem stM0 {x : Mem} (h : chkSM x = true) {Y : Lay} (h1 : ykd Y = kdM) (h2 : yln Y = lnM) (h3 : ysr Y = srM) (h4 : yn Y = 49) : St Y x := by
  intro _ a j ha hs hl
  rw [h1] at hs hl
  rw [h2] at hl
  rw [h3]
  rw [h4] at ha
  have hj : j < 67 := by
    refine Nat.lt_of_not_le fun c => ?_
    exact klM a ha (stt_b hs c)
  unfold chkSM at h
  simp only [List.all_eq_true, List.mem_range, Bool.or_eq_true, Bool.and_eq_true, decide_eq_true_eq] at h
  rcases h a ha j hj with q | q | q
  · rw [hs] at q
    cases q
  · have k3 := hl q.1
    omega
  · exact q
def tryX (k : Mem → Bool) : Bool := match f_X_init_0 (zer mem0 0) with
  | some x => k x
  | none => false
def tryM (k : Mem → Bool) : Bool := match f_M_init_0 (zer mem0 0) with
  | some x => k x
  | none => false
theorem tryX_i {k : Mem → Bool} {x : Mem} (e : f_X_init_0 (zer mem0 0) = some x) (h : tryX k = true) : k x = true := by
  unfold tryX at h
  rw [e] at h
  exact h
theorem tryM_i {k : Mem → Bool} {x : Mem} (e : f_M_init_0 (zer mem0 0) = some x) (h : tryM k = true) : k x = true := by
  unfold tryM at h
  rw [e] at h
  exact h
set_option maxRecDepth 100000 in
theorem x_t : tryX (fun _ => true) = true := by decide +kernel
set_option maxRecDepth 100000 in
theorem m_t : tryM (fun _ => true) = true := by decide +kernel
set_option maxRecDepth 100000 in
theorem i_t : tryX (fun x => tryM (fun m => chkI x m)) = true := by decide +kernel
set_option maxRecDepth 100000 in
theorem sx_t : tryX chkSX = true := by decide +kernel
set_option maxRecDepth 100000 in
theorem sm_t : tryM chkSM = true := by decide +kernel
set_option maxRecDepth 100000 in
theorem x3_t : tryX chk3 = true := by decide +kernel
/-- both objects as their makers leave them -/
theorem made : ∃ x m, f_X_init_0 (zer mem0 0) = some x ∧ f_M_init_0 (zer mem0 0) = some m ∧ Inv 0 56 x m ∧ chkSX x = true ∧ chkSM m = true := by
  have hx := x_t
  have hm := m_t
  unfold tryX at hx
  unfold tryM at hm
  cases ex : f_X_init_0 (zer mem0 0) with
  | none => rw [ex] at hx; cases hx
  | some x =>
    cases em : f_M_init_0 (zer mem0 0) with
    | none => rw [em] at hm; cases hm
    | some m =>
      have g1 : tryM (fun m => chkI x m) = true := tryX_i (k := fun x => tryM (fun m => chkI x m)) ex i_t
      have g2 : chkI x m = true := tryM_i (k := fun m => chkI x m) em g1
      have g3 : chkSX x = true := tryX_i (k := chkSX) ex sx_t
      have g4 : chkSM m = true := tryM_i (k := chkSM) em sm_t
      have h : chk3 x = true := tryX_i (k := chk3) ex x3_t
      refine ⟨x, m, rfl, rfl, inv0 g2 (fun q hq => ?_), g3, g4⟩
      unfold chk3 at h
      simp only [List.all_eq_true, List.mem_range, decide_eq_true_eq] at h
      have y := h (q / 63) (by omega) (q % 63) (by omega)
      rw [show 63 * (q / 63) + q % 63 = q by omega] at y
      exact y

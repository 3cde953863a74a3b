/-! The law's start. -/
theorem yw {s : State} {ysr0 : Nat → Nat → Nat} {Y : Lay} {μ : Mem} {H : Heap} {locs : List Loc} (h : Wd s Y (AL s) μ H locs) (hSt : St (ykd Y, yln Y, ysr0, true, ycy Y, yD Y, yad Y, yn Y, ytS Y) μ) : Wd s (ykd Y, yln Y, ysr0, true, ycy Y, yD Y, yad Y, yn Y, ytS Y) (AL s) μ H locs :=
  ⟨h.1, h.2.1, h.2.2.1, h.2.2.2.1, h.2.2.2.2.1, hSt⟩
set_option maxHeartbeats 4000000 in
theorem whole_start {p : Program} {e : Env} {s : State} {m : MethodId} {below : List Frame} {meth : Method} {c : Code} {b L : Nat} {xs : Nat → Int32} (l : Launch) (hL : L ≤ 3072) (h : lw_At p s m meth c b L xs) : W p l e room_1 s m #[Value.ref b] below meth c s.heap [] 0 0 (lw_Z below #[Value.ref b] s) (entryFrame m ([Value.ref b] : List Value).toArray 4) := by
  obtain ⟨hx, hb, hr, hml, hown, hts, hX, hbl, hlk, hg⟩ := h
  have hTT : ∀ w ∈ TT, w.before #[Value.ref b] s = true := fun w hw => hts w (List.mem_filter.mp hw).1
  have S : CallFix p m c code 4 s #[Value.ref b] TT "TopYardLaw" := ⟨hx, hb, hml, hown, hTT⟩
  obtain ⟨tS, hSO⟩ := sok_of hts hg
  obtain ⟨D, cy, hK⟩ := known_of hTT hts
  have hE : AOs s := aos_of hts
  obtain ⟨x0, m0, fX, fM, hI, kX0, kM0⟩ := made
  have hA0 : ∀ a : Nat, a < s.heap.size → ¬ AL s a := fun a h1 h2 => by
    have h2 : s.heap.size ≤ a := h2
    omega
  have hl := lv_entry ([Value.ref b] : List Value) (n := 4) (Nat.le_of_ble_eq_true rfl)
  rw [lg_entry_eq]
  have hz0 : Wd s ((kdX, lnX, srX, false, cy, D, fun _ => 0, 0, tS) : Lay) (AL s) mem0 s.heap [] := ⟨hK, fun k q hq => absurd (wl_ix hq).1 (Nat.not_lt_zero _), ⟨fun i j p q hi _ _ => absurd (wl_ix hi).1 (Nat.not_lt_zero _), fun k q hq => absurd (wl_ix hq).1 (Nat.not_lt_zero _)⟩, va_S.rf, fun a j b h1 => absurd h1 (Nat.not_lt_zero _), St_f rfl⟩
  refine l_new (Z := ((kdX, lnX, srX, false, cy, D, fun _ => 0, 0, tS) : Lay)) (Y := ((kdX, lnX, srX, false, cy, D, fun _ => 0, 0, tS) : Lay)) S (ci := 9) (by decide) rfl kW9 kO9 rfl kD9 wd_319 wd_320 wd_321 rfl rfl rfl rfl (by decide) (by decide) d_law_0 hz0 (fun q H1 hw1 hz1 _ => ?_)
  refine lv_dup S.1 S.2.1 d_law_3.1 rfl ?_
  refine l_ctor (Y := yset ((kdX, lnX, srX, false, cy, D, fun _ => 0, 0, tS) : Lay) (fun _ => q) 1) (rest := [.ref q]) S (hSO _ _ rfl hA0) wd_322 wd_323 wd_321 wd_324 rfl ⟨by decide +kernel, by decide +kernel, by decide +kernel⟩ (c_X_init_0 (l := l) (Y := yset ((kdX, lnX, srX, false, cy, D, fun _ => 0, 0, tS) : Lay) (fun _ => q) 1) ⟨rfl, rfl, rfl⟩ rfl fX) hE ⟨by decide, by decide⟩ (by decide) (by decide) hl.1 (Nat.le_of_ble_eq_true rfl) d_law_4 hw1 hz1 (fun a b _ hb => absurd hb (Nat.not_lt_zero _)) (fun ad1 H2 locs2 hag1 hw2 _ _ => ?_)
  refine lv_astore_n S.1 S.2.1 d_law_7.1 rfl hl (by decide) rfl (fun ls1 hl1 => ?_)
  refine l_new (Z := yset (yset ((kdX, lnX, srX, false, cy, D, fun _ => 0, 0, tS) : Lay) (fun _ => q) 1) ad1 56) (Y := ((kdM, lnM, srM, false, cy, D, fun _ => 0, 0, tS) : Lay)) S (ci := 10) (by decide) rfl kW10 kO10 rfl kD10 wd_325 wd_326 wd_327 rfl rfl rfl rfl (by decide) (by decide) d_law_8 hw2 (fun q2 H3 hw3 hz3 hd3 => ?_)
  refine lv_dup S.1 S.2.1 d_law_11.1 rfl ?_
  refine l_ctor (Y := yset ((kdM, lnM, srM, false, cy, D, fun _ => 0, 0, tS) : Lay) (fun _ => q2) 1) (rest := [.ref q2]) S (hSO _ _ rfl hA0) wd_328 wd_329 wd_327 wd_330 rfl ⟨by decide +kernel, by decide +kernel, by decide +kernel⟩ (c_M_init_0 (l := l) (Y := yset ((kdM, lnM, srM, false, cy, D, fun _ => 0, 0, tS) : Lay) (fun _ => q2) 1) ⟨rfl, rfl, rfl⟩ rfl fM) hE ⟨by decide, by decide⟩ (by decide) (by decide) hl1.1 (Nat.le_of_ble_eq_true rfl) d_law_12 hw3 hz3 (fun a b _ hb => (hd3 b hb).symm) (fun ad2 H4 locs4 hag2 hw4 hz4 hd4 => ?_)
  refine lv_astore_n S.1 S.2.1 d_law_15.1 rfl hl1 (by decide) rfl (fun ls2 hl2 => ?_)
  refine lv_iconst (v := 0) S.1 S.2.1 d_law_16.1 (by decide) ?_
  refine lv_istore_n S.1 S.2.1 d_law_17.1 rfl hl2 (by decide) rfl (fun ls3 hl3 => ?_)
  have e1 : ad1 0 = q := hag1 0 (Nat.zero_lt_one)
  have e2 : ad2 0 = q2 := hag2 0 (Nat.zero_lt_one)
  refine law_loop (x0 := q) (m0 := q2) S hr hlk hX hbl hL 513 0 56 ((kdX, lnX, srX, true, cy, D, ad1, 56, tS) : Lay) ((kdM, lnM, srM, true, cy, D, ad2, 49, tS) : Lay) x0 m0 H4 locs4 ls3 rfl ⟨⟨rfl, rfl, rfl, rfl, Nat.le_refl _⟩, rfl, ⟨rfl, rfl, rfl, rfl, Nat.le_refl _⟩, yw hz4 (stX0 kX0 rfl rfl rfl rfl), yw hw4 (stM0 kM0 rfl rfl rfl rfl), fun a b ha hb => (hd4 b a hb ha).symm, hSO _ _ rfl hA0, hSO _ _ rfl hA0, e1, e2, hI⟩ (by omega) ?_
  exact lv_sub hl3 [0, 3, 2, 1] rfl

def tO (F : Nat → Prop) (N : Nat → Bool) (P Q : Nat → Nat → Rat) : Prop := (∀ k, k < 8 → F k → N k = false → 0 ≤ P 8 k) ∧ ∀ k, k < 8 → F k → N k = true → 0 ≤ Q 9 k
def tI (F : Nat → Prop) (N : Nat → Bool) (P Q : Nat → Nat → Rat) : Prop := ∃ f, f < 8 ∧ F f ∧ N f = false ∧ P 8 f < 0 ∧ ∀ k, k < 8 → F k → N k = true → 0 ≤ Q f k
def tU (F : Nat → Prop) (N : Nat → Bool) (P Q : Nat → Nat → Rat) : Prop := ∃ f, f < 8 ∧ F f ∧ N f = true ∧ Q 9 f < 0 ∧ ∀ k, k < 8 → F k → N k = false → 0 ≤ P f k
/-- the basis ends the search: best, or nothing allowed, or without bound -/
def trm (F : Nat → Prop) (N : Nat → Bool) (P Q : Nat → Nat → Rat) : Prop := tO F N P Q ∨ tI F N P Q ∨ tU F N P Q
def pr (a : Nat → Nat → Rat) (F : Nat → Prop) (N : Nat → Bool) (e : Nat) (X : Nat → Rat) : Prop := inL a X ∧ (∀ v, v < 8 → F v → 0 ≤ X v) ∧ ∀ v, v < 8 → ¬ F v → v ≠ e → N v = true → X v = 0
def du (a : Nat → Nat → Rat) (F : Nat → Prop) (N : Nat → Bool) (e : Nat) (Y : Nat → Rat) : Prop := inP a Y ∧ (∀ v, v < 8 → F v → 0 ≤ Y v) ∧ ∀ v, v < 8 → ¬ F v → v ≠ e → N v = false → Y v = 0
def bad1 (a : Nat → Nat → Rat) (F : Nat → Prop) (N : Nat → Bool) (e : Nat) : Prop := ∃ Y, du a F N e Y ∧ Y e < 0 ∧ ((Y 9 = 1 ∧ ∃ X, pr a F N e X ∧ X e = 0 ∧ X 8 = 1 ∧ X 9 = - Y 8) ∨ (Y 9 = 0 ∧ 0 < Y 8))
def bad2 (a : Nat → Nat → Rat) (F : Nat → Prop) (N : Nat → Bool) (e : Nat) : Prop := ∃ X, pr a F N e X ∧ X e < 0 ∧ ((X 8 = 1 ∧ ∃ Y, du a F N e Y ∧ Y e = 0 ∧ Y 9 = 1 ∧ Y 8 = - X 9) ∨ (X 8 = 0 ∧ 0 < X 9))
theorem orth {a : Nat → Nat → Rat} {F : Nat → Prop} {N : Nat → Bool} {e : Nat} {X Y : Nat → Rat} (he : e < 8) (hX : pr a F N e X) (hY : du a F N e Y) : X e * Y e + X 8 * Y 8 + X 9 * Y 9 ≤ 0 := by
  have d : dot X Y = 0 := hY.1 X hX.1
  have t : ∀ v, v < 8 → v ≠ e → 0 ≤ X v * Y v := by
    intro v hv ve
    by_cases c : F v
    · exact Rat.mul_nonneg (hX.2.1 v hv c) (hY.2.1 v hv c)
    · cases b : N v with
      | true => rw [hX.2.2 v hv c ve b]; grind
      | false => rw [hY.2.2 v hv c ve b]; grind
  have g : X e * Y e ≤ sr (fun k => X k * Y k) 8 := sr_ge (f := fun k => X k * Y k) 8 he t
  have d' : sr (fun k => X k * Y k) 8 + X 8 * Y 8 + X 9 * Y 9 = 0 := d
  grind
theorem nobad {a : Nat → Nat → Rat} {F : Nat → Prop} {N : Nat → Bool} {e : Nat} (he : e < 8) (b1 : bad1 a F N e) (b2 : bad2 a F N e) : False := by
  obtain ⟨Y, hY, ye, y⟩ := b1
  obtain ⟨X, hX, xe, x⟩ := b2
  have o := orth he hX hY
  have p : 0 < X e * Y e := by
    have q := Rat.mul_pos (show 0 < -X e by grind) (show 0 < -Y e by grind)
    grind
  rcases y with ⟨y9, X1, hX1, x1e, x18, x19⟩ | ⟨y9, y8⟩
  · rcases x with ⟨x8, Y2, hY2, y2e, y29, y28⟩ | ⟨x8, x9⟩
    · have o2 := orth he hX1 hY2
      rw [x1e, x18, x19, y28, y29] at o2
      rw [x8, y9] at o
      grind
    · rw [x8, y9] at o
      grind
  · rcases x with ⟨x8, Y2, hY2, y2e, y29, y28⟩ | ⟨x8, x9⟩
    · rw [x8, y9] at o
      grind
    · rw [x8, y9] at o
      grind
theorem bas_P0 {a : Nat → Nat → Rat} {N : Nat → Bool} {P Q : Nat → Nat → Rat} (h : bas a N P Q) {j k : Nat} (hj : j < 10) (hk : k < 10) (nj : N j = true) (nk : N k = true) (c : k ≠ j) : P j k = 0 := by
  rw [(h.2.2.1 j hj nj).2 k hk nk, if_neg c]
theorem bas_P1 {a : Nat → Nat → Rat} {N : Nat → Bool} {P Q : Nat → Nat → Rat} (h : bas a N P Q) {j : Nat} (hj : j < 10) (nj : N j = true) : P j j = 1 := by
  rw [(h.2.2.1 j hj nj).2 j hj nj, if_pos rfl]
theorem bas_Q0 {a : Nat → Nat → Rat} {N : Nat → Bool} {P Q : Nat → Nat → Rat} (h : bas a N P Q) {j k : Nat} (hj : j < 10) (hk : k < 10) (nj : N j = false) (nk : N k = false) (c : k ≠ j) : Q j k = 0 := by
  rw [(h.2.2.2 j hj nj).2 k hk nk, if_neg c]
theorem bas_Q1 {a : Nat → Nat → Rat} {N : Nat → Bool} {P Q : Nat → Nat → Rat} (h : bas a N P Q) {j : Nat} (hj : j < 10) (nj : N j = false) : Q j j = 1 := by
  rw [(h.2.2.2 j hj nj).2 j hj nj, if_pos rfl]
theorem bas_pr {a : Nat → Nat → Rat} {F : Nat → Prop} {N : Nat → Bool} {P Q : Nat → Nat → Rat} {e : Nat} (h : bas a N P Q) (t : tO F N P Q) : pr a F N e (P 8) := by
  refine ⟨(h.2.2.1 8 (by omega) h.1).1, fun v hv fv => ?_, fun v hv _ _ nv => bas_P0 h (by omega) (by omega) h.1 nv (by omega)⟩
  cases nv : N v with
  | true => rw [bas_P0 h (show 8 < 10 by omega) (show v < 10 by omega) h.1 nv (by omega)]; grind
  | false => exact t.1 v hv fv nv
theorem bas_du {a : Nat → Nat → Rat} {F : Nat → Prop} {N : Nat → Bool} {P Q : Nat → Nat → Rat} {e : Nat} (h : bas a N P Q) (t : tO F N P Q) : du a F N e (Q 9) := by
  refine ⟨(h.2.2.2 9 (by omega) h.2.1).1, fun v hv fv => ?_, fun v hv _ _ nv => bas_Q0 h (by omega) (by omega) h.2.1 nv (by omega)⟩
  cases nv : N v with
  | true => exact t.2 v hv fv nv
  | false => rw [bas_Q0 h (show 9 < 10 by omega) (show v < 10 by omega) h.2.1 nv (by omega)]; grind
theorem del_ {a : Nat → Nat → Rat} {F : Nat → Prop} {N : Nat → Bool} {P Q : Nat → Nat → Rat} {e : Nat} (h : bas a N P Q) (he : e < 8) (ne : N e = true) (t : trm F N P Q) : trm (fun v => F v ∨ v = e) N P Q ∨ (bad1 a F N e ∧ ∃ i, i < 8 ∧ F i ∧ N i = false ∧ P e i ≠ 0) := by
  rcases t with t | ⟨f, f1, f2, f3, f4, f5⟩ | ⟨f, f1, f2, f3, f4, f5⟩
  · by_cases c : 0 ≤ Q 9 e
    · left; left
      refine ⟨fun k hk fk nk => ?_, fun k hk fk nk => ?_⟩
      · rcases fk with fk | fk
        · exact t.1 k hk fk nk
        · rw [fk, ne] at nk; cases nk
      · rcases fk with fk | fk
        · exact t.2 k hk fk nk
        · rw [fk]; exact c
    · have c' : Q 9 e < 0 := by grind
      by_cases d : ∀ i, i < 8 → F i → N i = false → 0 ≤ P e i
      · left; right; right
        refine ⟨e, he, Or.inr rfl, ne, c', fun k hk fk nk => ?_⟩
        rcases fk with fk | fk
        · exact d k hk fk nk
        · rw [fk, ne] at nk; cases nk
      · right
        refine ⟨⟨Q 9, bas_du h t, c', Or.inl ⟨bas_Q1 h (by omega) h.2.1, P 8, bas_pr h t, bas_P0 h (by omega) (by omega) h.1 ne (by omega), bas_P1 h (by omega) h.1, bas_pq h (by omega) (by omega) h.1 h.2.1⟩⟩, ?_⟩
        refine Classical.byContradiction fun hh => d fun i h1 h2 h3 => Classical.byContradiction fun h4 => hh ⟨i, h1, h2, h3, fun z => h4 ?_⟩
        rw [z]; grind
  · by_cases c : 0 ≤ Q f e
    · left; right; left
      refine ⟨f, f1, Or.inl f2, f3, f4, fun k hk fk nk => ?_⟩
      rcases fk with fk | fk
      · exact f5 k hk fk nk
      · rw [fk]; exact c
    · right
      have q := bas_pq h (show 8 < 10 by omega) (show f < 10 by omega) h.1 f3
      have q2 := bas_pq h (show e < 10 by omega) (show f < 10 by omega) ne f3
      refine ⟨⟨Q f, ⟨(h.2.2.2 f (by omega) f3).1, fun v hv fv => ?_, fun v hv fv ve nv => bas_Q0 h (by omega) (by omega) f3 nv (fun z => fv (z ▸ f2))⟩, by grind, Or.inr ⟨bas_Q0 h (by omega) (by omega) f3 h.2.1 (by omega), by grind⟩⟩, f, f1, f2, f3, by grind⟩
      cases nv : N v with
      | true => exact f5 v hv fv nv
      | false =>
        rw [(h.2.2.2 f (by omega) f3).2 v (by omega) nv]
        split <;> grind
  · left; right; right
    refine ⟨f, f1, Or.inl f2, f3, f4, fun k hk fk nk => ?_⟩
    rcases fk with fk | fk
    · exact f5 k hk fk nk
    · rw [fk, ne] at nk; cases nk
theorem con_ {a : Nat → Nat → Rat} {F : Nat → Prop} {N : Nat → Bool} {P Q : Nat → Nat → Rat} {e : Nat} (h : bas a N P Q) (he : e < 8) (ne : N e = false) (t : trm F N P Q) : trm (fun v => F v ∨ v = e) N P Q ∨ (bad2 a F N e ∧ ∃ j, j < 8 ∧ F j ∧ N j = true ∧ P j e ≠ 0) := by
  rcases t with t | ⟨f, f1, f2, f3, f4, f5⟩ | ⟨f, f1, f2, f3, f4, f5⟩
  · by_cases c : 0 ≤ P 8 e
    · left; left
      refine ⟨fun k hk fk nk => ?_, fun k hk fk nk => ?_⟩
      · rcases fk with fk | fk
        · exact t.1 k hk fk nk
        · rw [fk]; exact c
      · rcases fk with fk | fk
        · exact t.2 k hk fk nk
        · rw [fk, ne] at nk; cases nk
    · have c' : P 8 e < 0 := by grind
      by_cases d : ∀ i, i < 8 → F i → N i = true → 0 ≤ Q e i
      · left; right; left
        refine ⟨e, he, Or.inr rfl, ne, c', fun k hk fk nk => ?_⟩
        rcases fk with fk | fk
        · exact d k hk fk nk
        · rw [fk, ne] at nk; cases nk
      · right
        have q := bas_pq h (show 8 < 10 by omega) (show 9 < 10 by omega) h.1 h.2.1
        refine ⟨⟨P 8, bas_pr h t, c', Or.inl ⟨bas_P1 h (by omega) h.1, Q 9, bas_du h t, bas_Q0 h (by omega) (by omega) h.2.1 ne (by omega), bas_Q1 h (by omega) h.2.1, by grind⟩⟩, ?_⟩
        refine Classical.byContradiction fun hh => d fun i h1 h2 h3 => Classical.byContradiction fun h4 => hh ⟨i, h1, h2, h3, fun z => h4 ?_⟩
        have q2 := bas_pq h (show i < 10 by omega) (show e < 10 by omega) h3 ne
        grind
  · left; right; left
    refine ⟨f, f1, Or.inl f2, f3, f4, fun k hk fk nk => ?_⟩
    rcases fk with fk | fk
    · exact f5 k hk fk nk
    · rw [fk, ne] at nk; cases nk
  · by_cases c : 0 ≤ P f e
    · left; right; right
      refine ⟨f, f1, Or.inl f2, f3, f4, fun k hk fk nk => ?_⟩
      rcases fk with fk | fk
      · exact f5 k hk fk nk
      · rw [fk]; exact c
    · right
      have q := bas_pq h (show f < 10 by omega) (show 9 < 10 by omega) f3 h.2.1
      refine ⟨⟨P f, ⟨(h.2.2.1 f (by omega) f3).1, fun v hv fv => ?_, fun v hv fv ve nv => bas_P0 h (by omega) (by omega) f3 nv (fun z => fv (z ▸ f2))⟩, by grind, Or.inr ⟨bas_P0 h (by omega) (by omega) f3 h.1 (by omega), by grind⟩⟩, f, f1, f2, f3, by grind⟩
      cases nv : N v with
      | true =>
        rw [(h.2.2.1 f (by omega) f3).2 v (by omega) nv]
        split <;> grind
      | false => exact f5 v hv fv nv
theorem bad1_cg {a : Nat → Nat → Rat} {F : Nat → Prop} {N N' : Nat → Bool} {e : Nat} (hN : ∀ v, v < 8 → ¬ F v → v ≠ e → N' v = N v) (h : bad1 a F N e) : bad1 a F N' e := by
  obtain ⟨Y, hY, ye, y⟩ := h
  refine ⟨Y, ⟨hY.1, hY.2.1, fun v hv fv ve nv => hY.2.2 v hv fv ve (by rw [← hN v hv fv ve]; exact nv)⟩, ye, ?_⟩
  rcases y with ⟨y9, X, hX, xe⟩ | y
  · exact Or.inl ⟨y9, X, ⟨hX.1, hX.2.1, fun v hv fv ve nv => hX.2.2 v hv fv ve (by rw [← hN v hv fv ve]; exact nv)⟩, xe⟩
  · exact Or.inr y
theorem lp_claim {a : Nat → Nat → Rat} (con : Nat → Prop) : ∀ k, k ≤ 8 → ∀ N P Q, bas a N P Q → ∃ N' P' Q', bas a N' P' Q' ∧ (∀ v, v < 8 → ¬ (v < k ∧ con v) → N' v = N v) ∧ cnt N' = cnt N ∧ trm (fun v => v < k ∧ con v) N' P' Q' := by
  intro k
  induction k with
  | zero =>
    intro _ N P Q h
    exact ⟨N, P, Q, h, fun _ _ _ => rfl, rfl, Or.inl ⟨fun v _ fv => absurd fv.1 (by omega), fun v _ fv => absurd fv.1 (by omega)⟩⟩
  | succ k ih =>
    intro hk N P Q h
    by_cases c : con k
    · have eF : (fun v => v < k + 1 ∧ con v) = fun v => (v < k ∧ con v) ∨ v = k := by
        funext v
        refine propext ⟨fun g => ?_, fun g => ?_⟩
        · by_cases z : v = k
          · exact Or.inr z
          · exact Or.inl ⟨by omega, g.2⟩
        · rcases g with g | g
          · exact ⟨by omega, g.2⟩
          · exact ⟨by omega, g ▸ c⟩
      rw [eF]
      have e2 : ∀ v, ¬ (v < k + 1 ∧ con v) → ¬ (v < k ∧ con v) ∧ v ≠ k := fun v g => ⟨fun z => g ⟨by omega, z.2⟩, fun z => g ⟨by omega, z ▸ c⟩⟩
      have k8 : k < 8 := by omega
      obtain ⟨N1, P1, Q1, h1, s1, c1, t1⟩ := ih (by omega) N P Q h
      have nk := s1 k k8 (fun z => by omega)
      cases b : N k with
      | true =>
        rw [b] at nk
        rcases del_ h1 k8 nk t1 with t | ⟨b1, i, i8, fi, ni, pi⟩
        · exact ⟨N1, P1, Q1, h1, fun v hv g => s1 v hv (e2 v g).1, c1, t⟩
        · obtain ⟨P2, Q2, h2⟩ := pivot h1 k8 i8 nk ni pi
          obtain ⟨N3, P3, Q3, h3, s3, c3, t3⟩ := ih (by omega) _ P2 Q2 h2
          have n3 := s3 k k8 (fun z => by omega)
          have w1 : swp N1 k i k = false := by unfold swp; rw [if_pos rfl]
          rw [w1] at n3
          have w2 : ∀ v, v < 8 → ¬ (v < k ∧ con v) → v ≠ k → N3 v = N1 v := by
            intro v hv g1 g2
            rw [s3 v hv g1]
            unfold swp
            rw [if_neg g2, if_neg (show ¬ v = i from fun z => g1 (z ▸ fi))]
          rcases con_ h3 k8 n3 t3 with t | ⟨b2, _⟩
          · exact ⟨N3, P3, Q3, h3, fun v hv g => by rw [w2 v hv (e2 v g).1 (e2 v g).2, s1 v hv (e2 v g).1], by rw [c3, cnt_swp k8 i8 nk ni, c1], t⟩
          · exact absurd (nobad k8 (bad1_cg w2 b1) b2) id
      | false =>
        rw [b] at nk
        rcases con_ h1 k8 nk t1 with t | ⟨b2, j, j8, fj, nj, pj⟩
        · exact ⟨N1, P1, Q1, h1, fun v hv g => s1 v hv (e2 v g).1, c1, t⟩
        · obtain ⟨P2, Q2, h2⟩ := pivot h1 j8 k8 nj nk pj
          obtain ⟨N3, P3, Q3, h3, s3, c3, t3⟩ := ih (by omega) _ P2 Q2 h2
          have n3 := s3 k k8 (fun z => by omega)
          have w1 : swp N1 j k k = true := by
            unfold swp
            rw [if_neg (Ne.symm (tf_ne nj nk)), if_pos rfl]
          rw [w1] at n3
          have w2 : ∀ v, v < 8 → ¬ (v < k ∧ con v) → v ≠ k → N3 v = N1 v := by
            intro v hv g1 g2
            rw [s3 v hv g1]
            unfold swp
            rw [if_neg (show ¬ v = j from fun z => g1 (z ▸ fj)), if_neg g2]
          rcases del_ h3 k8 n3 t3 with t | ⟨b1, _⟩
          · exact ⟨N3, P3, Q3, h3, fun v hv g => by rw [w2 v hv (e2 v g).1 (e2 v g).2, s1 v hv (e2 v g).1], by rw [c3, cnt_swp j8 k8 nj nk, c1], t⟩
          · exact absurd (nobad k8 (bad1_cg (fun v hv g1 g2 => (w2 v hv g1 g2).symm) b1) b2) id
    · have eF : (fun v => v < k + 1 ∧ con v) = fun v => v < k ∧ con v := by
        funext v
        refine propext ⟨fun g => ⟨?_, g.2⟩, fun g => ⟨by omega, g.2⟩⟩
        have z : v ≠ k := fun z => c (z ▸ g.2)
        omega
      rw [eF]
      obtain ⟨N1, P1, Q1, h1, s1, c1, t1⟩ := ih (by omega) N P Q h
      exact ⟨N1, P1, Q1, h1, fun v hv g => s1 v hv (fun z => g ⟨by omega, z.2⟩), c1, t1⟩

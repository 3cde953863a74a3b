/-- the class's table when i tops were offered -/
def dpT (w : Nat → Nat) (v : Nat → Int) (i a : Nat) (x : Mem) : Prop := (gI x 45 a = -2147483648 ∧ nobag w i a) ∨ ∃ B, good w v i a B ∧ gI x 45 a = Int32.ofInt (sV v i B) ∧ gI x 46 a = nI B
theorem dpT.cg {w : Nat → Nat} {v : Nat → Int} {i a : Nat} {x x' : Mem} (h : dpT w v i a x) (e1 : gI x' 45 a = gI x 45 a) (e2 : gI x' 46 a = gI x 46 a) : dpT w v i a x' := by
  unfold dpT
  rw [e1, e2]; exact h
theorem dp_n {w : Nat → Nat} {v : Nat → Int} {i a : Nat} {x : Mem} (h : dpT w v i a x) (hn : a < w i ∨ nobag w i (a - w i)) : dpT w v (i + 1) a x := by
  rcases h with ⟨h1, h2⟩ | ⟨B, h1, h2, h3⟩
  · exact Or.inl ⟨h1, nobag_n h2 hn⟩
  · exact Or.inr ⟨B, good_n h1 hn, by rw [sV_lo h1.1]; exact h2, h3⟩
def pkX (a k : Nat) : Prop := ¬ a = 45 ∧ ¬ a = 46 ∧ ¬ (a = 44 ∧ (k = 2 ∨ k = 3))
theorem sub_n {a b : Nat} (h : b ≤ a) : nI a - nI b = nI (a - b) := by
  obtain ⟨d, rfl⟩ : ∃ d, a = b + d := ⟨a - b, by omega⟩
  rw [← y_add, show b + d - b = d by omega]
  grind
theorem offer_l {w : Nat → Nat} {v : Nat → Int} {i L : Nat} (hL : L ≤ 500) (hi : i < 16) (hw : 1 ≤ w i ∧ w i ≤ 50) (hv : ∀ i, i < 16 → -100 ≤ v i ∧ v i ≤ 100) : ∀ n a x, a < n → a ≤ L → gI x 44 3 = nI i → (∀ b, b ≤ a → dpT w v i b x) → (∀ b, a < b → b ≤ L → dpT w v (i + 1) b x) → ∃ x', f_Pk_offer_l19 FN n (nI (w i)) (Int32.ofInt (v i)) (nI a) x = some x' ∧ (∀ b, b ≤ L → dpT w v (i + 1) b x') ∧ gI x' 44 3 = nI (i + 1) ∧ gI x' 44 2 = gI x 44 2 ∧ EqOn pkX x x' := by
  intro n
  induction n with
  | zero => intro a x h; omega
  | succ n ih =>
    intro a x h1 h2 h3 h4 h5
    have hvi := hv i hi
    conv => congr; intro x'; lhs; lhs; unfold f_Pk_offer_l19
    unfold f_Pk_offer_b85
    by_cases c : a < w i
    · rw [if_pos (by rw [y_lt (by omega) (by omega)]; exact c), nme, h3, y_s]
      refine ⟨_, rfl, fun b hb => ?_, by rw [gI_sI, if_pos rfl, if_pos rfl], by rw [gI_sI, if_pos rfl, if_neg (by omega)], EqOn.rf.sI (by unfold pkX; omega)⟩
      have e : dpT w v (i + 1) b x := by
        by_cases z : b ≤ a
        · exact dp_n (h4 b z) (Or.inl (by omega))
        · exact h5 b (by omega) hb
      exact e.cg (by rw [gI_sI, if_neg (by omega)]) (by rw [gI_sI, if_neg (by omega)])
    · rw [if_neg (by rw [y_lt (by omega) (by omega)]; exact c), sub_n (by omega), if_pos (ib_n (show a - w i < 501 by omega) (by omega)), nme, ix_n (show a - w i < 2147483648 by omega), ix_n (show a < 2147483648 by omega)]
      have ea : ib (nI a) 501 = true := ib_n (by omega) (by omega)
      obtain ⟨a', rfl⟩ : ∃ a', a = a' + 1 := ⟨a - 1, by omega⟩
      simp only [nme, (sp1 a').1, if_pos ea]
      have keep : dpT w v (i + 1) (a' + 1) x → ∃ x', f_Pk_offer_l19 FN n (nI (w i)) (Int32.ofInt (v i)) (nI a') x = some x' ∧ (∀ b, b ≤ L → dpT w v (i + 1) b x') ∧ gI x' 44 3 = nI (i + 1) ∧ gI x' 44 2 = gI x 44 2 ∧ EqOn pkX x x' := fun hk => ih a' x (by omega) (by omega) h3 (fun b hb => h4 b (by omega)) (fun b hb hb2 => by
        by_cases z : b = a' + 1
        · rw [z]; exact hk
        · exact h5 b (by omega) hb2)
      rcases h4 (a' + 1 - w i) (by omega) with ⟨p1, p2⟩ | ⟨B1, p1, p2, p3⟩
      · rw [if_pos p1]
        exact keep (dp_n (h4 _ (by omega)) (Or.inr p2))
      · have b1 := sV_b hv i (by omega) B1
        have vb : (Int32.ofInt (sV v i B1)).toInt = sV v i B1 := o32 (by omega)
        have vv : (Int32.ofInt (v i)).toInt = v i := o32 (by omega)
        have vs : (Int32.ofInt (sV v i B1) + Int32.ofInt (v i)).toInt = sV v i B1 + v i := by rw [a32, vb, vv] <;> rw [vb, vv] <;> omega
        rw [if_neg (fun q => by rw [p2] at q; have := congrArg Int32.toInt q; rw [vb, show (-2147483648 : Int32).toInt = -2147483648 from rfl] at this; omega), p2]
        have set : good w v (i + 1) (a' + 1) (B1 + 2 ^ i) → sV v (i + 1) (B1 + 2 ^ i) = sV v i B1 + v i → ∃ x', (if ib (nI (a' + 1 - w i)) 501 = true then f_Pk_offer_l19 FN n (nI (w i)) (Int32.ofInt (v i)) (nI a') (sI (sI x 45 (a' + 1) (Int32.ofInt (sV v i B1) + Int32.ofInt (v i))) 46 (a' + 1) (gI (sI x 45 (a' + 1) (Int32.ofInt (sV v i B1) + Int32.ofInt (v i))) 46 (a' + 1 - w i) ||| (1 : Int32) <<< (gI (sI x 45 (a' + 1) (Int32.ofInt (sV v i B1) + Int32.ofInt (v i))) 44 3 &&& 31))) else none) = some x' ∧ (∀ b, b ≤ L → dpT w v (i + 1) b x') ∧ gI x' 44 3 = nI (i + 1) ∧ gI x' 44 2 = gI x 44 2 ∧ EqOn pkX x x' := by
          intro hg hs
          have e46 : gI (sI x 45 (a' + 1) (Int32.ofInt (sV v i B1) + Int32.ofInt (v i))) 46 (a' + 1 - w i) = nI B1 := p3
          have e44 : gI (sI x 45 (a' + 1) (Int32.ofInt (sV v i B1) + Int32.ofInt (v i))) 44 3 = nI i := h3
          rw [if_pos (ib_n (show a' + 1 - w i < 501 by omega) (by omega)), e46, e44, or_n hi p1.1]
          obtain ⟨x', q1, q2, q3, q4, q5⟩ := ih a' (sI (sI x 45 (a' + 1) (Int32.ofInt (sV v i B1) + Int32.ofInt (v i))) 46 (a' + 1) (nI (B1 + 2 ^ i))) (by omega) (by omega) h3 (fun b hb => (h4 b (by omega)).cg (by simp only [gI_sI, reduceIte, Nat.reduceEqDiff, if_neg (show ¬ b = a' + 1 by omega)]) (by simp only [gI_sI, reduceIte, Nat.reduceEqDiff, if_neg (show ¬ b = a' + 1 by omega)])) (fun b hb hb2 => by
            by_cases z : b = a' + 1
            · subst z
              refine Or.inr ⟨_, hg, ?_, ?_⟩
              · simp only [gI_sI, reduceIte, Nat.reduceEqDiff]
                apply i32_inj
                rw [vs, hs, o32 (by omega)]
              · simp only [gI_sI, reduceIte, Nat.reduceEqDiff]
            · exact (h5 b (by omega) hb2).cg (by simp only [gI_sI, reduceIte, Nat.reduceEqDiff, if_neg z]) (by simp only [gI_sI, reduceIte, Nat.reduceEqDiff, if_neg z]))
          exact ⟨x', q1, q2, q3, q4, ((EqOn.rf.sI (by unfold pkX; omega)).sI (by unfold pkX; omega)).tr q5⟩
        rcases h4 (a' + 1) (by omega) with ⟨r1, r2⟩ | ⟨B0, r1, r2, r3⟩
        · rw [if_neg (by rw [r1, Int32.le_iff_toInt_le, vs, show (-2147483648 : Int32).toInt = -2147483648 from rfl]; omega)]
          obtain ⟨g1, g2⟩ := good_s (show w i ≤ a' + 1 by omega) p1 (Or.inl r2)
          exact set g1 g2
        · have b0 := sV_b hv i (by omega) B0
          have v0 : (Int32.ofInt (sV v i B0)).toInt = sV v i B0 := o32 (by omega)
          by_cases z : sV v i B1 + v i ≤ sV v i B0
          · rw [if_pos (by rw [r2, Int32.le_iff_toInt_le, vs, v0]; exact z)]
            exact keep (Or.inr ⟨B0, good_k p1 r1 z, by rw [sV_lo r1.1]; exact r2, r3⟩)
          · rw [if_neg (by rw [r2, Int32.le_iff_toInt_le, vs, v0]; exact z)]
            obtain ⟨g1, g2⟩ := good_s (show w i ≤ a' + 1 by omega) p1 (Or.inr ⟨B0, r1, by omega⟩)
            exact set g1 g2

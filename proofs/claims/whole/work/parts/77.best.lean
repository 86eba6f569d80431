/-! LAYER 2: THE GREATEST -/
/-- both pick the same one, if they count alike -/
theorem best_ok {s u : St} {c : Nat → Int32} {S : Nat → Bool} {n : Nat} {y : Int32} (hn : n ≤ 6) (h6 : s 6 6 = nI n) (h3 : u 1 3 = nI n) (hs : ∀ r, r < n → S r = true → s 10 r = c r) (hu : ∀ r, r < n → S r = true → q12_countOf u (nI r) y (nI (bs S n)) = some (c r)) : ∃ x : Int32, ((x = -1 ∧ ∀ r, r < n → S r = false) ∨ ∃ i, i < n ∧ S i = true ∧ x = nI i) ∧ q5_greatest s (nI (bs S n)) = some x ∧ q12_winnerOf u y (nI (bs S n)) = some x := by
  have key : R2 (q5_greatest s (nI (bs S n))) (q12_winnerOf u y (nI (bs S n))) (fun a b => a = b ∧ ((a = -1 ∧ ∀ r, r < n → S r = false) ∨ ∃ i, i < n ∧ S i = true ∧ a = nI i)) := by
    unfold q5_greatest q12_winnerOf
    dsimp only [lt]
    refine r2_bind ?_
    refine lpR22 n (fun k a p b q => p = nI k ∧ q = nI k ∧ a = b ∧ ((a = -1 ∧ ∀ r, r < k → S r = false) ∨ ∃ i, i < n ∧ S i = true ∧ a = nI i)) ?_ fuelN fuelN 0 (-1) 0 (-1) 0 (Nat.zero_le _) (fuel_ok (by omega)) (fuel_ok (by omega)) ⟨rfl, rfl, rfl, Or.inl ⟨rfl, fun r hr => absurd hr (Nat.not_lt_zero _)⟩⟩
    rintro f g k a p b q hk ⟨rfl, rfl, rfl, ha⟩ IH
    refine r2_R ag3 ?_
    rw [h6, h3]
    refine r2_ite Iff.rfl (fun hlt => ?_) (fun hge => r2_some (r2_some ⟨rfl, ha.imp (fun h => ⟨h.1, fun r hr => h.2 r (by have : ¬ k < n := fun q => hge (nI_lt q (by omega)); omega)⟩) id⟩))
    have hkn : k < n := (nI_ltI (by omega) (by omega)).mp hlt
    rw [isOf_isIn, isIn_bs hn hkn]
    by_cases hS : S k = true
    · rw [if_pos hS, if_pos hS]
      rcases ha with ⟨rfl, hno⟩ | ⟨i, hi, hSi, rfl⟩
      · simp only [if_true, Option.bind_some]
        rw [nI_1]
        exact IH _ _ _ _ hkn ⟨rfl, rfl, rfl, Or.inr ⟨k, hkn, hS, rfl⟩⟩
      · rw [if_neg (nI_m1 (by omega)), if_neg (nI_m1 (by omega)), ag_nI (k := k) rfl (by omega) (by decide), ag_nI (k := i) rfl (by omega) (by decide), hs k hkn hS, hs i hi hSi, hu k hkn hS, hu i hi hSi]
        simp only [Option.bind_some]
        by_cases hc : c i < c k
        · simp only [if_pos hc, if_true, Option.bind_some]
          rw [nI_1]
          exact IH _ _ _ _ hkn ⟨rfl, rfl, rfl, Or.inr ⟨k, hkn, hS, rfl⟩⟩
        · simp only [if_neg hc, Bool.false_eq_true, if_false, Option.bind_some]
          rw [nI_1]
          exact IH _ _ _ _ hkn ⟨rfl, rfl, rfl, Or.inr ⟨i, hi, hSi, rfl⟩⟩
    · rw [if_neg hS, if_neg hS]
      simp only [Option.bind_some, Bool.false_eq_true, if_false]
      rw [nI_1]
      refine IH _ _ _ _ hkn ⟨rfl, rfl, rfl, ha.imp (fun h => ⟨h.1, fun r hr => ?_⟩) id⟩
      by_cases hrk : r = k
      · rw [hrk]; exact Bool.not_eq_true _ |>.mp hS
      · exact h.2 r (by omega)
  obtain ⟨a, b, e1, e2, rfl, h⟩ := key
  exact ⟨a, h, e1, e2⟩

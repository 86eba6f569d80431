/-! LAYER 2: THE TALLY OF DUELS -/
theorem tallyD {fav : FavT} {ab : AbsT} {σ s : St} {m : Nat → Int32} {n : Nat} (hn : n ≤ 6) (hC : HeldC fav ab σ s m n) : Wo (q5_countDuels s) (fun s' => (∀ r, r < n → s' 10 r = nI (duN fav ab m n r n)) ∧ ∀ i, i ≠ 10 → s' i = s i) := by
  unfold q5_countDuels
  dsimp only [lt]
  have f0 : ∀ r, r < 6 → fil s 10 6 0 10 r = 0 := fun r hr => by unfold fil; rw [if_pos rfl, if_pos hr]
  have f1 : ∀ i, i ≠ 10 → fil s 10 6 0 i = s i := fun i hi => by unfold fil; rw [if_neg hi]
  refine wo_bind ?_
  refine lpW2 n (fun k a w => a = nI k ∧ (∀ r, r < k → w 10 r = nI (duN fav ab m n r n)) ∧ (∀ r, k ≤ r → r < 6 → w 10 r = 0) ∧ ∀ i, i ≠ 10 → w i = s i) ?_ fuelN 0 0 _ (Nat.zero_le _) (fuel_ok (by omega)) ⟨rfl, fun r hr => absurd hr (Nat.not_lt_zero _), fun r _ hr => f0 r hr, f1⟩
  rintro rec k a w hk ⟨rfl, w1, w0, w2⟩ IH
  rw [w2 6 (by decide), hC.1]
  refine wo_ite (fun hlt => ?_) (fun hge => ?_)
  · have hkn : k < n := (nI_ltI (by omega) (by omega)).mp hlt
    refine wo_bind ?_
    refine lpW2 n (fun j b v => b = nI j ∧ v 10 k = nI (duN fav ab m n k j) ∧ (∀ r, r ≠ k → v 10 r = w 10 r) ∧ ∀ i, i ≠ 10 → v i = s i) ?_ fuelN 0 0 w (Nat.zero_le _) (fuel_ok (by omega)) ⟨rfl, w0 k (Nat.le_refl _) (by omega), fun _ _ => rfl, w2⟩
    rintro rec2 j b v hj ⟨rfl, v1, v0, v2⟩ IH2
    rw [v2 6 (by decide), hC.1]
    refine wo_ite (fun hlt2 => ?_) (fun hge2 => ?_)
    · have hjn : j < n := (nI_ltI (by omega) (by omega)).mp hlt2
      have c1 := cn_s (P := fun j => !decide (j = k) && btB fav ab m n k j) (r := j)
      have et : (if ¬ nI k = nI j then (Option.bind (q5_isAhead v (nI k) (nI j)) fun x39_ => if x39_ = true then (some true) else (some false)) else (some false)) = some (!decide (j = k) && btB fav ab m n k j) := by
        by_cases hjk : j = k
        · subst hjk
          rw [if_neg (not_not_intro rfl), decide_eq_true rfl]
          rfl
        · rw [if_pos (nIe (by omega) (by omega) (Ne.symm hjk)), ahead11 hn (hC.re v2) hkn hjn (Ne.symm hjk), decide_eq_false hjk]
          cases btB fav ab m n k j <;> rfl
      rw [et]
      simp only [Option.bind_some]
      cases hc : (!decide (j = k) && btB fav ab m n k j) with
      | true =>
        rw [hc, if_pos rfl] at c1
        rw [if_pos rfl, ag_nI (k := k) rfl (by omega) (by decide), v1]
        simp only [Option.bind_some]
        rw [sa_nI (k := k) rfl (by omega) (by decide)]
        simp only [Option.bind_some]
        rw [nI_1 j]
        refine IH2 _ _ hjn ⟨rfl, ?_, fun r hr => by rw [up_off hr]; exact v0 r hr, fun i hi => by rw [up_pl hi]; exact v2 i hi⟩
        rw [up_at, nI_1]
        exact congrArg nI c1.symm
      | false =>
        rw [hc, if_neg (by decide)] at c1
        rw [if_neg (by decide)]
        simp only [Option.bind_some]
        rw [nI_1 j]
        exact IH2 _ _ hjn ⟨rfl, v1.trans (congrArg nI c1.symm), v0, v2⟩
    · have : j = n := by
        have : ¬ j < n := fun q => hge2 (nI_lt q (by omega))
        omega
      subst this
      refine wo_some ?_
      show Wo (rec (nI k + 1) v) _
      rw [nI_1]
      refine IH _ _ hkn ⟨rfl, fun r hr => ?_, fun r h1 h2 => by rw [v0 r (by omega)]; exact w0 r (by omega) h2, v2⟩
      by_cases hrk : r = k
      · subst hrk; exact v1
      · rw [v0 r hrk]; exact w1 r (by omega)
  · have : k = n := by
      have : ¬ k < n := fun q => hge (nI_lt q (by omega))
      omega
    subst this
    exact wo_some (wo_some ⟨w1, w2⟩)

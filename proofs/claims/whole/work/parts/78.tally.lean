/-! LAYER 2: TALLIES -/
theorem HeldC.re {fav : FavT} {ab : AbsT} {σ s s' : St} {m : Nat → Int32} {n : Nat} (h : HeldC fav ab σ s m n) (e : ∀ i, i ≠ 10 → s' i = s i) : HeldC fav ab s' s' m n := by
  obtain ⟨h1, h2, h3, h4, h5, -, -⟩ := h
  have e6 := e 6 (by decide)
  refine ⟨by rw [e6]; exact h1, by rw [e6]; exact h2, by rw [e6]; exact h3, by rw [e6]; exact h4, fun p hp hv x hx hr => ?_, fun _ _ _ _ _ => rfl, fun _ _ _ => rfl⟩
  rw [e 7 (by decide), e 8 (by decide)]
  exact h5 p hp hv x hx hr
theorem tallyP {fav : FavT} {ab : AbsT} {σ s : St} {m : Nat → Int32} {n : Nat} (hn : n ≤ 6) (hC : HeldC fav ab σ s m n) : Wo (q5_countPoints s) (fun s' => (∀ r, r < n → s' 10 r = ptI fav ab m n r n) ∧ ∀ i, i ≠ 10 → s' i = s i) := by
  unfold q5_countPoints
  dsimp only [lt]
  refine wo_bind ?_
  refine lpW2 n (fun k a w => a = nI k ∧ (∀ r, r < k → w 10 r = ptI fav ab m n r n) ∧ ∀ i, i ≠ 10 → w i = s i) ?_ fuelN 0 0 s (Nat.zero_le _) (fuel_ok (by omega)) ⟨rfl, fun r hr => absurd hr (Nat.not_lt_zero _), fun _ _ => rfl⟩
  rintro rec k a w hk ⟨rfl, w1, w2⟩ IH
  rw [w2 6 (by decide), hC.1]
  refine wo_ite (fun hlt => ?_) (fun hge => ?_)
  · have hkn : k < n := (nI_ltI (by omega) (by omega)).mp hlt
    refine wo_st (points11 hn (hC.re w2) hkn) ?_
    refine wo_st (sa_nI (k := k) rfl (by omega) (by decide)) ?_
    rw [nI_1]
    refine IH _ _ hkn ⟨rfl, fun r hr => ?_, fun i hi => by rw [up_pl hi]; exact w2 i hi⟩
    by_cases hrk : r = k
    · subst hrk; rw [up_at]
    · rw [up_off hrk]; exact w1 r (by omega)
  · have : k = n := by
      have : ¬ k < n := fun q => hge (nI_lt q (by omega))
      omega
    subst this
    exact wo_some (wo_some ⟨w1, w2⟩)

/-! LAYER 2: VOTES AND POINTS -/
def vtB (fav : FavT) (ab : AbsT) (m : Nat → Int32) (S : Nat → Bool) (n o : Nat) (y : Int32) (v : Nat) : Bool := fVt ab m v && (S o && decide (nI (ps S (fav m v) n o) = y))
theorem votesAt_ok {LR : LRT} {fav : FavT} {ab : AbsT} (L : LawF LR fav ab) {ν u : St} {m : Nat → Int32} {n o : Nat} {S : Nat → Bool} (y : Int32) (hn : n ≤ 6) (hW : WFm m n) (h3 : m 3 = nI n) (hu : u 1 = m) (hL : ∃ a b c, LR a b c (m 1) (m 2) (fun k => m (352 + k))) (hM : HeldM fav ab ν u m n) (ho : o < n) : q12_votesAt u (nI o) y (nI (bs S n)) = some (nI (cn (vtB fav ab m S n o y) n)) := by
  have h : Wo (q12_votesAt u (nI o) y (nI (bs S n))) (fun r => r = nI (cn (vtB fav ab m S n o y) n)) := by
    unfold q12_votesAt
    dsimp only [lt]
    refine wo_bind ?_
    refine lpW2 n (fun k a q => q = nI k ∧ a = nI (cn (vtB fav ab m S n o y) k)) ?_ fuelN 0 0 0 (Nat.zero_le _) (fuel_ok (by omega)) ⟨rfl, rfl⟩
    rintro rec k a q hk ⟨rfl, rfl⟩ IH
    refine wo_st ag3 ?_
    rw [hu, h3]
    refine wo_ite (fun hlt => ?_) (fun hge => ?_)
    · have hkn : k < n := (nI_ltI (by omega) (by omega)).mp hlt
      have c1 := cn_s (P := vtB fav ab m S n o y) (r := k)
      have et : (if q12_isOf (u 0 20) (nI k) = true then (if q12_isOf (nI (bs S n)) (nI o) = true then (Option.bind (q12_aheadOf u (nI k) (nI o) (nI (bs S n))) fun x26_ => if x26_ = y then (some true) else (some false)) else (some false)) else (some false)) = some (vtB fav ab m S n o y k) := by
        rw [hM.1, isOf_isIn, isOf_isIn, isIn_bs hn hkn, isIn_bs hn ho, ahead_ok L hn hW h3 hu hL hM hkn ho]
        unfold vtB
        simp only [Option.bind_some]
        by_cases hc : nI (ps S (fav m k) n o) = y
        · rw [if_pos hc, decide_eq_true hc]
          cases fVt ab m k <;> cases S o <;> rfl
        · rw [if_neg hc, decide_eq_false hc]
          cases fVt ab m k <;> cases S o <;> rfl
      rw [et]
      simp only [Option.bind_some]
      cases hc : vtB fav ab m S n o y k with
      | true =>
        rw [hc, if_pos rfl] at c1
        simp only [if_true, Option.bind_some]
        rw [nI_1, nI_1]
        exact IH _ _ hkn ⟨rfl, congrArg nI c1.symm⟩
      | false =>
        rw [hc, if_neg (by decide)] at c1
        simp only [Bool.false_eq_true, if_false, Option.bind_some]
        rw [Int32.add_zero, nI_1]
        exact IH _ _ hkn ⟨rfl, congrArg nI c1.symm⟩
    · have : k = n := by
        have : ¬ k < n := fun q => hge (nI_lt q (by omega))
        omega
      subst this
      exact wo_some (wo_some rfl)
  obtain ⟨r, e, rfl⟩ := h
  exact e
/-- the points of one -/
def ptI (fav : FavT) (ab : AbsT) (m : Nat → Int32) (n i : Nat) : Nat → Int32
  | 0 => 0
  | k + 1 => ptI fav ab m n i k + (if (fVt ab m k && fRn m i) = true then (nI (cn (fRn m) n) - 1) - nI (ps (fRn m) (fav m k) n i) else 0)
theorem ptI_s {fav : FavT} {ab : AbsT} {m : Nat → Int32} {n i k : Nat} : ptI fav ab m n i (k + 1) = ptI fav ab m n i k + (if (fVt ab m k && fRn m i) = true then (nI (cn (fRn m) n) - 1) - nI (ps (fRn m) (fav m k) n i) else 0) := rfl
theorem ptI_0 {fav : FavT} {ab : AbsT} {m : Nat → Int32} {n i : Nat} (h : ¬ fRn m i = true) : ∀ k, ptI fav ab m n i k = 0
  | 0 => rfl
  | k + 1 => by rw [ptI_s, ptI_0 h k, Bool.not_eq_true _ |>.mp h, Bool.and_false]; rfl
theorem points11 {fav : FavT} {ab : AbsT} {σ s : St} {m : Nat → Int32} {n i : Nat} (hn : n ≤ 6) (hC : HeldC fav ab σ s m n) (hi : i < n) : q5_pointsOf s (nI i) = some (ptI fav ab m n i n) := by
  have h : Wo (q5_pointsOf s (nI i)) (fun r => r = ptI fav ab m n i n) := by
    unfold q5_pointsOf
    dsimp only [lt]
    rw [hC.2.1, isIn_bs hn hi]
    by_cases hR : fRn m i = true
    · rw [if_neg (not_not_intro hR)]
      refine wo_bind ?_
      refine lpW2 n (fun k a q => q = nI k ∧ a = ptI fav ab m n i k) ?_ fuelN 0 0 0 (Nat.zero_le _) (fuel_ok (by omega)) ⟨rfl, rfl⟩
      rintro rec k a q hk ⟨rfl, rfl⟩ IH
      rw [hC.1]
      refine wo_ite (fun hlt => ?_) (fun hge => ?_)
      · have hkn : k < n := (nI_ltI (by omega) (by omega)).mp hlt
        have c1 := ptI_s (fav := fav) (ab := ab) (m := m) (n := n) (i := i) (k := k)
        rw [hC.2.2.2.1, isIn_bs hn hkn]
        by_cases hv : fVt ab m k = true
        · rw [hv, hR, Bool.and_self, if_pos rfl] at c1
          rw [if_pos hv, ag_nI (ix_6 k i) (by omega) (by decide), (hC.2.2.2.2.1 k hkn hv i hi hR).2, hC.2.2.1, bcount_bs hn]
          simp only [Option.bind_some]
          rw [nI_1, ← c1]
          exact IH _ _ hkn ⟨rfl, rfl⟩
        · rw [Bool.not_eq_true _ |>.mp hv, Bool.false_and, if_neg (by decide), Int32.add_zero] at c1
          rw [if_neg hv]
          simp only [Option.bind_some]
          rw [nI_1, ← c1]
          exact IH _ _ hkn ⟨rfl, rfl⟩
      · have : k = n := by
          have : ¬ k < n := fun q => hge (nI_lt q (by omega))
          omega
        subst this
        exact wo_some (wo_some rfl)
    · rw [if_pos hR]
      exact wo_some (ptI_0 hR n).symm
  obtain ⟨r, e, rfl⟩ := h
  exact e
theorem points12 {LR : LRT} {fav : FavT} {ab : AbsT} (L : LawF LR fav ab) {ν u : St} {m : Nat → Int32} {n i : Nat} (hn : n ≤ 6) (hW : WFm m n) (h3 : m 3 = nI n) (hu : u 1 = m) (hL : ∃ a b c, LR a b c (m 1) (m 2) (fun k => m (352 + k))) (hM : HeldM fav ab ν u m n) (hi : i < n) : q12_pointsOf u (nI i) = some (ptI fav ab m n i n) := by
  have h : Wo (q12_pointsOf u (nI i)) (fun r => r = ptI fav ab m n i n) := by
    unfold q12_pointsOf
    dsimp only [lt]
    refine wo_bind ?_
    refine lpW2 n (fun k a q => q = nI k ∧ a = ptI fav ab m n i k) ?_ fuelN 0 0 0 (Nat.zero_le _) (fuel_ok (by omega)) ⟨rfl, rfl⟩
    rintro rec k a q hk ⟨rfl, rfl⟩ IH
    refine wo_st ag3 ?_
    rw [hu, h3]
    refine wo_ite (fun hlt => ?_) (fun hge => ?_)
    · have hkn : k < n := (nI_ltI (by omega) (by omega)).mp hlt
      have c1 := ptI_s (fav := fav) (ab := ab) (m := m) (n := n) (i := i) (k := k)
      have et : (if (q12_isOf (u 0 20) (nI k) = true) ∧ (q12_isOf (u 0 21) (nI i) = true) then (Option.bind (q12_bits (u 0 21)) fun x24_ => Option.bind (q12_aheadOf u (nI k) (nI i) (u 0 21)) fun x26_ => some ((x24_ - 1) - x26_)) else (some (0 : Int32))) = some (if (fVt ab m k && fRn m i) = true then (nI (cn (fRn m) n) - 1) - nI (ps (fRn m) (fav m k) n i) else 0) := by
        rw [hM.1, hM.2.1, isOf_isIn, isOf_isIn, isIn_bs hn hkn, isIn_bs hn hi, bits_ok (bs_le hn _), bcount_bs hn, ahead_ok L hn hW h3 hu hL hM hkn hi]
        simp only [Option.bind_some]
        cases fVt ab m k <;> cases fRn m i <;> rfl
      rw [et]
      simp only [Option.bind_some]
      rw [nI_1, ← c1]
      exact IH _ _ hkn ⟨rfl, rfl⟩
    · have : k = n := by
        have : ¬ k < n := fun q => hge (nI_lt q (by omega))
        omega
      subst this
      exact wo_some (wo_some rfl)
  obtain ⟨r, e, rfl⟩ := h
  exact e

/-! LAYER 2: DUELS, MASTER, POINTS -/
def duN (fav : FavT) (ab : AbsT) (m : Nat → Int32) (n i : Nat) : Nat → Nat := cn (fun j => !decide (j = i) && btB fav ab m n i j)
theorem duels11 {fav : FavT} {ab : AbsT} {σ s : St} {m : Nat → Int32} {n i : Nat} (hn : n ≤ 6) (hC : HeldC fav ab σ s m n) (hi : i < n) : q5_duelsOf s (nI i) = some (nI (duN fav ab m n i n)) := by
  have h : Wo (q5_duelsOf s (nI i)) (fun r => r = nI (duN fav ab m n i n)) := by
    unfold q5_duelsOf
    dsimp only [lt]
    refine wo_bind ?_
    refine lpW2 n (fun k a q => q = nI k ∧ a = nI (duN fav ab m n i k)) ?_ fuelN 0 0 0 (Nat.zero_le _) (fuel_ok (by omega)) ⟨rfl, rfl⟩
    rintro rec k a q hk ⟨rfl, rfl⟩ IH
    rw [hC.1]
    refine wo_ite (fun hlt => ?_) (fun hge => ?_)
    · have hkn : k < n := (nI_ltI (by omega) (by omega)).mp hlt
      have c1 := cn_s (P := fun j => !decide (j = i) && btB fav ab m n i j) (r := k)
      have et : (if ¬ nI k = nI i then (Option.bind (q5_isAhead s (nI i) (nI k)) fun x23_ => if x23_ = true then (some true) else (some false)) else (some false)) = some (!decide (k = i) && btB fav ab m n i k) := by
        by_cases hki : k = i
        · subst hki
          rw [if_neg (not_not_intro rfl), decide_eq_true rfl]
          rfl
        · rw [if_pos (nIe (by omega) (by omega) hki), ahead11 hn hC hi hkn (Ne.symm hki), decide_eq_false hki]
          cases btB fav ab m n i k <;> rfl
      rw [et]
      simp only [Option.bind_some]
      cases hc : (!decide (k = i) && btB fav ab m n i k) with
      | true =>
        rw [hc, if_pos rfl] at c1
        simp only [if_true, Option.bind_some]
        rw [nI_1, nI_1]
        exact IH _ _ hkn ⟨rfl, congrArg nI c1.symm⟩
      | false =>
        rw [hc, if_neg (by decide)] at c1
        simp only [Bool.false_eq_true, if_false, Option.bind_some]
        rw [nI_1]
        exact IH _ _ hkn ⟨rfl, congrArg nI c1.symm⟩
    · have : k = n := by
        have : ¬ k < n := fun q => hge (nI_lt q (by omega))
        omega
      subst this
      exact wo_some (wo_some rfl)
  obtain ⟨r, e, rfl⟩ := h
  exact e
theorem duels12 {LR : LRT} {fav : FavT} {ab : AbsT} (L : LawF LR fav ab) {ν u : St} {m : Nat → Int32} {n i : Nat} (hn : n ≤ 6) (hW : WFm m n) (h3 : m 3 = nI n) (hu : u 1 = m) (hL : ∃ a b c, LR a b c (m 1) (m 2) (fun k => m (352 + k))) (hM : HeldM fav ab ν u m n) (hi : i < n) : q12_duelsOf u (nI i) = some (nI (duN fav ab m n i n)) := by
  have h : Wo (q12_duelsOf u (nI i)) (fun r => r = nI (duN fav ab m n i n)) := by
    unfold q12_duelsOf
    dsimp only [lt]
    refine wo_bind ?_
    refine lpW2 n (fun k a q => q = nI k ∧ a = nI (duN fav ab m n i k)) ?_ fuelN 0 0 0 (Nat.zero_le _) (fuel_ok (by omega)) ⟨rfl, rfl⟩
    rintro rec k a q hk ⟨rfl, rfl⟩ IH
    refine wo_st ag3 ?_
    rw [hu, h3]
    refine wo_ite (fun hlt => ?_) (fun hge => ?_)
    · have hkn : k < n := (nI_ltI (by omega) (by omega)).mp hlt
      have c1 := cn_s (P := fun j => !decide (j = i) && btB fav ab m n i j) (r := k)
      have et : (if ¬ nI k = nI i then (Option.bind (q12_doesBeat u (nI i) (nI k)) fun x25_ => if x25_ = true then (some true) else (some false)) else (some false)) = some (!decide (k = i) && btB fav ab m n i k) := by
        by_cases hki : k = i
        · subst hki
          rw [if_neg (not_not_intro rfl), decide_eq_true rfl]
          rfl
        · rw [if_pos (nIe (by omega) (by omega) hki), beat12 L hn hW h3 hu hL hM hi hkn, decide_eq_false hki]
          cases btB fav ab m n i k <;> rfl
      rw [et]
      simp only [Option.bind_some]
      cases hc : (!decide (k = i) && btB fav ab m n i k) with
      | true =>
        rw [hc, if_pos rfl] at c1
        simp only [if_true, Option.bind_some]
        rw [nI_1, nI_1]
        exact IH _ _ hkn ⟨rfl, congrArg nI c1.symm⟩
      | false =>
        rw [hc, if_neg (by decide)] at c1
        simp only [Bool.false_eq_true, if_false, Option.bind_some]
        rw [Int32.add_zero, nI_1]
        exact IH _ _ hkn ⟨rfl, congrArg nI c1.symm⟩
    · have : k = n := by
        have : ¬ k < n := fun q => hge (nI_lt q (by omega))
        omega
      subst this
      exact wo_some (wo_some rfl)
  obtain ⟨r, e, rfl⟩ := h
  exact e
theorem op_master {LR : LRT} {fav : FavT} {ab : AbsT} (L : LawF LR fav ab) : Op_master (RR LR) := by
  intro σ μ hR
  obtain ⟨n, hN, hV, hW⟩ := hR.nn
  have hn := hN.1
  have h3 := hN.2.2
  obtain ⟨⟨s, es, hC⟩, u, eu, hM⟩ := polls (ν := up μ 0 0 0) L hR hV hW up0_1
  have u1 : u 1 = μ 1 := (hM.2.2.2.1 1 (by decide) (by decide) (by decide)).trans up0_1
  have hRR : RR LR s u := ((hR.heldC hC).t0).heldM hM
  have key : R2 (q11_master σ) (q12_master μ) (fun a b => a.1 = b.1 ∧ a.2 = s ∧ b.2 = u) := by
    unfold q11_master q12_master q11_pollNow q5_beaterOfAll
    dsimp only [lt]
    rw [es, eu]
    simp only [Option.bind_some]
    have hW3 : ∀ (x : Option (Sum Int32 Int32)) (y : Option (Sum (Int32 × St) Int32)), R2 x y (fun a b => (∃ p, a = .inl p ∧ b = .inl (p, u)) ∨ ∃ p q, a = .inr p ∧ b = .inr q) → R2 (Option.bind (Option.bind x fun y1_ => Sum.elim (fun x9 => some x9) (fun _ => some (-1)) y1_) fun x3_ => some (x3_, s)) (Option.bind y fun y5_ => Sum.elim (fun x9 => some x9) (fun _ => some (-1, u)) y5_) (fun a b => a.1 = b.1 ∧ a.2 = s ∧ b.2 = u) := by
      rintro x y ⟨a, b, rfl, rfl, ⟨p, rfl, rfl⟩ | ⟨p, q, rfl, rfl⟩⟩
      · exact ⟨_, _, rfl, rfl, rfl, rfl, rfl⟩
      · exact ⟨_, _, rfl, rfl, rfl, rfl, rfl⟩
    refine hW3 _ _ ?_
    refine lpR11 n (fun k a b => a = nI k ∧ b = nI k) ?_ fuelN fuelN 0 0 0 (Nat.zero_le _) (fuel_ok (by omega)) (fuel_ok (by omega)) ⟨rfl, rfl⟩
    rintro f g k a b hk ⟨rfl, rfl⟩ IH
    refine r2_R ag3 ?_
    rw [hC.1, u1, h3]
    refine r2_ite Iff.rfl (fun hlt => ?_) (fun _ => r2_some (Or.inr ⟨_, _, rfl, rfl⟩))
    have hkn : k < n := (nI_ltI (by omega) (by omega)).mp hlt
    rw [hC.2.1, hM.2.1, isOf_isIn, bits_ok (bs_le hn _), duels11 hn hC hkn, duels12 L hn hW h3 u1 ⟨_, _, _, hR.2.2.2.2.2⟩ hM hkn]
    simp only [Option.bind_some]
    by_cases c1 : q11_isIn (nI (bs (fRn (μ 1)) n)) (nI k) = true
    · rw [if_pos c1, if_pos c1]
      by_cases c2 : nI (duN fav ab (μ 1) n k n) = bcount (nI (bs (fRn (μ 1)) n)) - 1
      · rw [if_pos c2, if_pos (show nI (duN fav ab (μ 1) n k n) = s 6 8 - 1 by rw [hC.2.2.1]; exact c2)]
        simp only [Option.bind_some, if_true]
        exact r2_some (Or.inl ⟨_, rfl, rfl⟩)
      · rw [if_neg c2, if_neg (show ¬ nI (duN fav ab (μ 1) n k n) = s 6 8 - 1 by rw [hC.2.2.1]; exact c2)]
        simp only [Option.bind_some, Bool.false_eq_true, if_false]
        rw [nI_1]
        exact IH _ _ hkn ⟨rfl, rfl⟩
    · rw [if_neg c1, if_neg c1]
      simp only [Option.bind_some, Bool.false_eq_true, if_false]
      rw [nI_1]
      exact IH _ _ hkn ⟨rfl, rfl⟩
  obtain ⟨a, b, e1, e2, e3, e4, e5⟩ := key
  exact ⟨a, b, e1, e2, e3, by rw [e4, e5]; exact hRR⟩

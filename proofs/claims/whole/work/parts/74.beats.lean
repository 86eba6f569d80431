/-! LAYER 2: BEATS -/
def wvB (fav : FavT) (ab : AbsT) (m : Nat → Int32) (i j v : Nat) : Bool := fVt ab m v && ahB (fav m v) i j
def btB (fav : FavT) (ab : AbsT) (m : Nat → Int32) (n i j : Nat) : Bool := (fRn m i && fRn m j) && decide (cn (fVt ab m) n < 2 * cn (wvB fav ab m i j) n)
theorem wv_le {fav : FavT} {ab : AbsT} {m : Nat → Int32} {i j : Nat} (n : Nat) : cn (wvB fav ab m i j) n ≤ cn (fVt ab m) n := cn_le (fun k hk => by unfold wvB at hk; rw [Bool.and_eq_true] at hk; exact hk.1) n
theorem lead_pos {A T : Nat} (hT : T ≤ 6) (h : A ≤ T) : (0 < nI A - nI (T - A)) ↔ T < 2 * A := by
  rw [Int32.lt_iff_toInt_lt, pk_sub_toInt (by omega) (by omega)]
  show (0 : Int) < _ ↔ _
  omega
theorem lead_up {A B : Nat} : nI A - nI B + 1 = nI (A + 1) - nI B := by
  rw [← nI_1]
  generalize nI A = x
  generalize nI B = y
  rw [Int32.sub_eq_add_neg, Int32.sub_eq_add_neg, Int32.add_assoc, Int32.add_assoc, Int32.add_comm (-y)]
theorem lead_dn {A B : Nat} : nI A - nI B + -1 = nI A - nI (B + 1) := by
  rw [← nI_1]
  generalize nI A = x
  generalize nI B = y
  rw [Int32.sub_eq_add_neg, Int32.sub_eq_add_neg, Int32.neg_add, Int32.add_assoc, Int32.sub_eq_add_neg]
theorem ahead11 {fav : FavT} {ab : AbsT} {σ s : St} {m : Nat → Int32} {n i j : Nat} (hn : n ≤ 6) (hC : HeldC fav ab σ s m n) (hi : i < n) (hj : j < n) (hij : i ≠ j) : q5_isAhead s (nI i) (nI j) = some (btB fav ab m n i j) := by
  have h : Wo (q5_isAhead s (nI i) (nI j)) (fun r => r = btB fav ab m n i j) := by
    unfold q5_isAhead
    dsimp only [lt]
    rw [hC.2.1, isIn_bs hn hi, isIn_bs hn hj]
    by_cases hc : ¬ fRn m i = true ∨ ¬ fRn m j = true
    · rw [if_pos hc]
      refine wo_some ?_
      unfold btB
      rcases hc with hc | hc <;> rw [Bool.not_eq_true _ |>.mp hc] <;> simp only [Bool.false_and, Bool.and_false]
    · rw [if_neg hc]
      have hRi : fRn m i = true := Decidable.byContradiction (fun q => hc (Or.inl q))
      have hRj : fRn m j = true := Decidable.byContradiction (fun q => hc (Or.inr q))
      refine wo_bind ?_
      refine lpW2 n (fun k a q => q = nI k ∧ a = nI (cn (wvB fav ab m i j) k) - nI (cn (fVt ab m) k - cn (wvB fav ab m i j) k)) ?_ fuelN 0 0 0 (Nat.zero_le _) (fuel_ok (by omega)) ⟨rfl, (show (0 : Int32) = nI 0 - nI (0 - 0) by decide)⟩
      rintro rec k a q hk ⟨rfl, rfl⟩ IH
      rw [hC.1]
      refine wo_ite (fun hlt => ?_) (fun hge => ?_)
      · have hkn : k < n := (nI_ltI (by omega) (by omega)).mp hlt
        rw [hC.2.2.2.1, isIn_bs hn hkn]
        have hle := wv_le (fav := fav) (ab := ab) (m := m) (i := i) (j := j) k
        have c1 := cn_s (P := wvB fav ab m i j) (r := k)
        have c2 := cn_s (P := fVt ab m) (r := k)
        by_cases hv : fVt ab m k = true
        · rw [if_pos hv] at c2
          have ew : wvB fav ab m i j k = ahB (fav m k) i j := by unfold wvB; rw [hv, Bool.true_and]
          rw [ew] at c1
          have hpi := ps_ct (f := fav m k) hi hRi
          have hpj := ps_ct (f := fav m k) hj hRj
          have hct := cn_top (P := fRn m) n
          have ha := ps_ah (R := fRn m) (f := fav m k) hi hRi hij
          rw [if_pos hv, ag_nI (ix_6 k i) (by omega) (by decide), ag_nI (ix_6 k j) (by omega) (by decide), (hC.2.2.2.2.1 k hkn hv i hi hRi).2, (hC.2.2.2.2.1 k hkn hv j hj hRj).2]
          simp only [Option.bind_some]
          by_cases hx : ahB (fav m k) i j = true
          · rw [if_pos hx] at c1
            rw [if_pos (nI_lt (ha.mp hx) (by omega))]
            simp only [Option.bind_some]
            rw [lead_up, nI_1]
            exact IH _ _ hkn ⟨rfl, by rw [c1, c2, show cn (fVt ab m) k + 1 - (cn (wvB fav ab m i j) k + 1) = cn (fVt ab m) k - cn (wvB fav ab m i j) k from by omega]⟩
          · rw [if_neg hx] at c1
            have c1 : cn (wvB fav ab m i j) (k + 1) = cn (wvB fav ab m i j) k := c1
            rw [if_neg (fun q => hx (ha.mpr ((nI_ltI (by omega) (by omega)).mp q)))]
            simp only [Option.bind_some]
            rw [lead_dn, nI_1]
            exact IH _ _ hkn ⟨rfl, by rw [c1, c2, show cn (fVt ab m) k + 1 - cn (wvB fav ab m i j) k = cn (fVt ab m) k - cn (wvB fav ab m i j) k + 1 from by omega]⟩
        · rw [if_neg hv] at c2
          have ew : wvB fav ab m i j k = false := by unfold wvB; rw [Bool.not_eq_true _ |>.mp hv, Bool.false_and]
          rw [ew, if_neg (by decide)] at c1
          rw [if_neg hv]
          simp only [Option.bind_some]
          rw [nI_1]
          exact IH _ _ hkn ⟨rfl, by rw [c1, c2, Nat.add_zero, Nat.add_zero]⟩
      · have : k = n := by
          have : ¬ k < n := fun q => hge (nI_lt q (by omega))
          omega
        subst this
        refine wo_some (wo_some ?_)
        have hct := cn_top (P := fVt ab m) k
        unfold btB
        rw [hRi, hRj, Bool.and_self, Bool.true_and]
        exact decide_eq_decide.mpr (lead_pos (by omega) (wv_le k))
  obtain ⟨r, e, rfl⟩ := h
  exact e
theorem beat12 {LR : LRT} {fav : FavT} {ab : AbsT} (L : LawF LR fav ab) {ν u : St} {m : Nat → Int32} {n i j : Nat} (hn : n ≤ 6) (hW : WFm m n) (h3 : m 3 = nI n) (hu : u 1 = m) (hL : ∃ a b c, LR a b c (m 1) (m 2) (fun k => m (352 + k))) (hM : HeldM fav ab ν u m n) (hi : i < n) (hj : j < n) : q12_doesBeat u (nI i) (nI j) = some (btB fav ab m n i j) := by
  have h : Wo (q12_doesBeat u (nI i) (nI j)) (fun r => r = btB fav ab m n i j) := by
    unfold q12_doesBeat
    dsimp only [lt]
    refine wo_bind ?_
    refine lpW2 n (fun k a q => q = nI k ∧ a = nI (cn (wvB fav ab m i j) k) - nI (cn (fVt ab m) k - cn (wvB fav ab m i j) k)) ?_ fuelN 0 0 0 (Nat.zero_le _) (fuel_ok (by omega)) ⟨rfl, (show (0 : Int32) = nI 0 - nI (0 - 0) by decide)⟩
    rintro rec k a q hk ⟨rfl, rfl⟩ IH
    refine wo_st ag3 ?_
    rw [hu, h3]
    refine wo_ite (fun hlt => ?_) (fun hge => ?_)
    · have hkn : k < n := (nI_ltI (by omega) (by omega)).mp hlt
      rw [hM.1, isOf_isIn, isIn_bs hn hkn, has_ok L hn hW hL hM hkn hi hj]
      have hle := wv_le (fav := fav) (ab := ab) (m := m) (i := i) (j := j) k
      have c1 := cn_s (P := wvB fav ab m i j) (r := k)
      have c2 := cn_s (P := fVt ab m) (r := k)
      by_cases hv : fVt ab m k = true
      · rw [if_pos hv] at c2
        have ew : wvB fav ab m i j k = ahB (fav m k) i j := by unfold wvB; rw [hv, Bool.true_and]
        rw [ew] at c1
        rw [if_neg (not_not_intro hv)]
        simp only [Option.bind_some]
        by_cases hx : ahB (fav m k) i j = true
        · rw [if_pos hx] at c1
          rw [if_pos hx]
          simp only [Option.bind_some]
          rw [lead_up, nI_1]
          exact IH _ _ hkn ⟨rfl, by rw [c1, c2, show cn (fVt ab m) k + 1 - (cn (wvB fav ab m i j) k + 1) = cn (fVt ab m) k - cn (wvB fav ab m i j) k from by omega]⟩
        · rw [if_neg hx] at c1
          have c1 : cn (wvB fav ab m i j) (k + 1) = cn (wvB fav ab m i j) k := c1
          rw [if_neg hx]
          simp only [Option.bind_some]
          rw [lead_dn, nI_1]
          exact IH _ _ hkn ⟨rfl, by rw [c1, c2, show cn (fVt ab m) k + 1 - cn (wvB fav ab m i j) k = cn (fVt ab m) k - cn (wvB fav ab m i j) k + 1 from by omega]⟩
      · rw [if_neg hv] at c2
        have ew : wvB fav ab m i j k = false := by unfold wvB; rw [Bool.not_eq_true _ |>.mp hv, Bool.false_and]
        rw [ew, if_neg (by decide)] at c1
        rw [if_pos hv]
        simp only [Option.bind_some]
        rw [Int32.add_zero, nI_1]
        exact IH _ _ hkn ⟨rfl, by rw [c1, c2, Nat.add_zero, Nat.add_zero]⟩
    · have : k = n := by
        have : ¬ k < n := fun q => hge (nI_lt q (by omega))
        omega
      subst this
      refine wo_some (wo_some ?_)
      have hct := cn_top (P := fVt ab m) k
      dsimp only
      rw [hM.2.1, isOf_isIn, isOf_isIn, isIn_bs hn hi, isIn_bs hn hj]
      unfold btB
      have hp := lead_pos (A := cn (wvB fav ab m i j) k) (T := cn (fVt ab m) k) (by omega) (wv_le k)
      cases fRn m i <;> cases fRn m j <;> simp only [Bool.false_and, Bool.and_false, Bool.and_self, Bool.true_and, Bool.false_eq_true, and_false, and_true, decide_false]
      exact decide_eq_decide.mpr hp
  obtain ⟨r, e, rfl⟩ := h
  exact e
theorem op_beats {LR : LRT} {fav : FavT} {ab : AbsT} (L : LawF LR fav ab) : Op_beats (RR LR) := by
  intro σ μ hR p o
  obtain ⟨n, hN, hV, hW⟩ := hR.nn
  have hn := hN.1
  unfold q11_beats q12_beats q11_pollNow
  rcases two_cases hN p o with ⟨h1, h2⟩ | ⟨h1, h2⟩ | ⟨i, j, hi, hj, hij, rfl, rfl, h1, h2⟩
  · rw [h1, h2]
    exact ⟨(.inl 2, σ), (false, up μ 0 0 1), rfl, by simp only [Option.bind_some, up_at, if_pos lt01], sx_thr (i := 0) (by decide) (by decide) rfl, hR.t0⟩
  · rw [h1, h2]
    exact ⟨(.inl 0, σ), (false, up μ 0 0 2), rfl, by simp only [Option.bind_some, up_at, if_pos lt02], sx_thr (i := 1) (by decide) (by decide) rfl, hR.t0⟩
  · rw [h1, h2]
    simp only [Option.bind_some, up_at, if_neg lt0]
    obtain ⟨⟨s, es, hC⟩, u, eu, hM⟩ := polls (ν := up μ 0 0 0) L hR hV hW up0_1
    have u1 : u 1 = μ 1 := (hM.2.2.2.1 1 (by decide) (by decide) (by decide)).trans up0_1
    have u00 : u 0 0 = 0 := by rw [hM.2.2.2.2.1 0 (by omega), up_at]
    have hRR : RR LR s u := ((hR.heldC hC).t0).heldM hM
    rw [es, eu]
    simp only [Option.bind_some]
    rw [ahead11 hn hC hi hj hij, beat12 L hn hW hN.2.2 u1 ⟨_, _, _, hR.2.2.2.2.2⟩ hM hi hj]
    exact ⟨_, _, rfl, rfl, sx_ok u00, hRR⟩

/-! LAYER 2: RANK -/
theorem pcn_cn (a : Nat) : ∀ k, pcn a k = cn (fun j => a.testBit j) k
  | 0 => rfl
  | k + 1 => by rw [pcn_s, cn_s, pcn_cn a k]
theorem cn_congr {P Q : Nat → Bool} : ∀ {r : Nat}, (∀ k, k < r → P k = Q k) → cn P r = cn Q r
  | 0, _ => rfl
  | r + 1, h => by rw [cn_s, cn_s, cn_congr (fun k hk => h k (by omega)), h r (by omega)]
theorem cn_stop {P : Nat → Bool} {a : Nat} : ∀ {b : Nat}, (∀ k, a ≤ k → P k = false) → cn P (a + b) = cn P a
  | 0, _ => rfl
  | b + 1, h => by
    rw [← Nat.add_assoc, cn_s, h (a + b) (by omega), if_neg (by decide)]
    exact cn_stop h
theorem bcount_bs {f : Nat → Bool} {n : Nat} (hn : n ≤ 6) : bcount (nI (bs f n)) = nI (cn f n) := by
  rw [bcount_pcn _ (bs_le hn f), pcn_cn]
  have e := cn_stop (P := fun j => (bs f n).testBit j) (a := n) (b := 31 - n) (fun k hk => bs_bit_ge f hk)
  rw [show n + (31 - n) = 31 from by omega] at e
  rw [e, cn_congr (fun k hk => bs_bit f n k hk)]
theorem sub_pos {x y : Int32} (hx : -100000000 ≤ x.toInt ∧ x.toInt ≤ 100000000) (hy : -100000000 ≤ y.toInt ∧ y.toInt ≤ 100000000) : (x - y).toInt = x.toInt - y.toInt := by
  rw [Int32.toInt_sub]
  exact Int.bmod_eq_of_le (by omega) (by omega)
theorem has_ok {LR : LRT} {fav : FavT} {ab : AbsT} (L : LawF LR fav ab) {ν u : St} {m : Nat → Int32} {n p a b : Nat} (hn : n ≤ 6) (hW : WFm m n) (hL : ∃ a b c, LR a b c (m 1) (m 2) (fun k => m (352 + k))) (hM : HeldM fav ab ν u m n) (hp : p < n) (ha : a < n) (hb : b < n) : q12_hasAhead u (nI p) (nI a) (nI b) = some (ahB (fav m p) a b) := by
  unfold q12_hasAhead
  dsimp only [lt]
  rw [ag_nI (ix_7 p a) (by omega) (by decide), ag_nI (ix_7 p b) (by omega) (by decide), hM.2.2.1 p a hp ha, hM.2.2.1 p b hp hb]
  simp only [Option.bind_some]
  have e := sub_pos (L.2.2.2 hL hW hp ha) (L.2.2.2 hL hW hp hb)
  unfold ahB
  refine congrArg some (decide_eq_decide.mpr ?_)
  have e1 : 0 < fav m p a - fav m p b ↔ fav m p b < fav m p a := by
    rw [Int32.lt_iff_toInt_lt, Int32.lt_iff_toInt_lt, e]
    show (0 : Int) < _ ↔ _
    omega
  have e2 : fav m p a - fav m p b = 0 ↔ fav m p a = fav m p b := by
    rw [← Int32.toInt_inj, ← Int32.toInt_inj, e]
    show _ = (0 : Int) ↔ _
    omega
  rw [e1, e2, nI_ltI (by omega) (by omega)]
theorem ahead_ok {LR : LRT} {fav : FavT} {ab : AbsT} (L : LawF LR fav ab) {ν u : St} {m : Nat → Int32} {n p o : Nat} {R : Nat → Bool} (hn : n ≤ 6) (hW : WFm m n) (h3 : m 3 = nI n) (hu : u 1 = m) (hL : ∃ a b c, LR a b c (m 1) (m 2) (fun k => m (352 + k))) (hM : HeldM fav ab ν u m n) (hp : p < n) (ho : o < n) : q12_aheadOf u (nI p) (nI o) (nI (bs R n)) = some (nI (ps R (fav m p) n o)) := by
  have h : Wo (q12_aheadOf u (nI p) (nI o) (nI (bs R n))) (fun r => r = nI (ps R (fav m p) n o)) := by
    unfold q12_aheadOf
    dsimp only [lt]
    refine wo_bind ?_
    refine lpW2 n (fun k a q => q = nI k ∧ a = nI (ps R (fav m p) k o)) ?_ fuelN 0 0 0 (Nat.zero_le _) (fuel_ok (by omega)) ⟨rfl, rfl⟩
    rintro rec k a q hk ⟨rfl, rfl⟩ IH
    refine wo_st ag3 ?_
    rw [hu, h3]
    refine wo_ite (fun hlt => ?_) (fun hge => ?_)
    · have hkn : k < n := (nI_ltI (by omega) (by omega)).mp hlt
      have et : (if q12_isOf (nI (bs R n)) (nI k) = true then (if ¬ nI k = nI o then (Option.bind (q12_hasAhead u (nI p) (nI k) (nI o)) fun x26_ => if x26_ = true then (some true) else (some false)) else (some false)) else (some false)) = some (R k && ahB (fav m p) k o) := by
        rw [isOf_isIn, isIn_bs hn hkn, has_ok L hn hW hL hM hp hkn ho]
        by_cases hko : k = o
        · subst hko
          rw [if_neg (not_not_intro rfl), (Bool.not_eq_true _ |>.mp (ah_irr (f := fav m p) (x := k))), Bool.and_false, ite_self]
        · rw [if_pos (nIe (by omega) (by omega) hko)]
          cases R k <;> cases ahB (fav m p) k o <;> rfl
      rw [et]
      simp only [Option.bind_some]
      have hs := ps_s (R := R) (f := fav m p) (r := k) (x := o)
      cases hc : (R k && ahB (fav m p) k o) with
      | true =>
        rw [hc, if_pos rfl] at hs
        simp only [if_true, Option.bind_some]
        rw [nI_1, nI_1]
        exact IH _ _ hkn ⟨rfl, by rw [hs]⟩
      | false =>
        rw [hc, if_neg (by decide)] at hs
        simp only [Bool.false_eq_true, if_false, Option.bind_some]
        rw [Int32.add_zero, nI_1]
        exact IH _ _ hkn ⟨rfl, by rw [hs]; rfl⟩
    · have : k = n := by
        have : ¬ k < n := fun q => hge (nI_lt q (by omega))
        omega
      subst this
      exact wo_some (wo_some rfl)
  obtain ⟨r, e, rfl⟩ := h
  exact e
theorem inRank_ok {LR : LRT} {fav : FavT} {ab : AbsT} (L : LawF LR fav ab) {ν u : St} {m : Nat → Int32} {n p : Nat} {R : Nat → Bool} (y : Int32) (hn : n ≤ 6) (hW : WFm m n) (h3 : m 3 = nI n) (hu : u 1 = m) (hL : ∃ a b c, LR a b c (m 1) (m 2) (fun k => m (352 + k))) (hM : HeldM fav ab ν u m n) (hp : p < n) : ∃ r, q12_inRank u (nI p) y (nI (bs R n)) = some r ∧ ((r = -1 ∧ ∀ x, x < n → R x = true → nI (ps R (fav m p) n x) ≠ y) ∨ ∃ x, x < n ∧ R x = true ∧ nI (ps R (fav m p) n x) = y ∧ r = nI x) := by
  have h : Wo (q12_inRank u (nI p) y (nI (bs R n))) (fun r => (r = -1 ∧ ∀ x, x < n → R x = true → nI (ps R (fav m p) n x) ≠ y) ∨ ∃ x, x < n ∧ R x = true ∧ nI (ps R (fav m p) n x) = y ∧ r = nI x) := by
    unfold q12_inRank
    dsimp only [lt]
    refine wo_bind ?_
    refine lpW2 n (fun k a q => q = nI k ∧ ((a = -1 ∧ ∀ x, x < k → R x = true → nI (ps R (fav m p) n x) ≠ y) ∨ ∃ x, x < n ∧ R x = true ∧ nI (ps R (fav m p) n x) = y ∧ a = nI x)) ?_ fuelN 0 (-1) 0 (Nat.zero_le _) (fuel_ok (by omega)) ⟨rfl, Or.inl ⟨rfl, fun x hx => absurd hx (Nat.not_lt_zero _)⟩⟩
    rintro rec k a q hk ⟨rfl, hI⟩ IH
    refine wo_st ag3 ?_
    rw [hu, h3]
    refine wo_ite (fun hlt => ?_) (fun hge => ?_)
    · have hkn : k < n := (nI_ltI (by omega) (by omega)).mp hlt
      have et : (if q12_isOf (nI (bs R n)) (nI k) = true then (Option.bind (q12_aheadOf u (nI p) (nI k) (nI (bs R n))) fun x25_ => if x25_ = y then (some true) else (some false)) else (some false)) = some (R k && decide (nI (ps R (fav m p) n k) = y)) := by
        rw [isOf_isIn, isIn_bs hn hkn, ahead_ok L hn hW h3 hu hL hM hp hkn]
        simp only [Option.bind_some]
        cases R k with
        | false => rfl
        | true =>
          by_cases hc : nI (ps R (fav m p) n k) = y
          · rw [if_pos rfl, if_pos hc, decide_eq_true hc]; rfl
          · rw [if_pos rfl, if_neg hc, decide_eq_false hc]; rfl
      rw [et]
      simp only [Option.bind_some]
      cases hc : (R k && decide (nI (ps R (fav m p) n k) = y)) with
      | true =>
        rw [Bool.and_eq_true, decide_eq_true_eq] at hc
        simp only [if_true, Option.bind_some]
        rw [nI_1]
        exact IH _ _ hkn ⟨rfl, Or.inr ⟨k, hkn, hc.1, hc.2, rfl⟩⟩
      | false =>
        simp only [Bool.false_eq_true, if_false, Option.bind_some]
        rw [nI_1]
        refine IH _ _ hkn ⟨rfl, hI.imp (fun ⟨h1, h2⟩ => ⟨h1, fun x hx hRx => ?_⟩) id⟩
        by_cases hxk : x = k
        · subst hxk
          rw [hRx, Bool.true_and] at hc
          exact of_decide_eq_false hc
        · exact h2 x (by omega) hRx
    · have : k = n := by
        have : ¬ k < n := fun q => hge (nI_lt q (by omega))
        omega
      subst this
      exact wo_some (wo_some hI)
  exact h
theorem op_rank {LR : LRT} {fav : FavT} {ab : AbsT} (L : LawF LR fav ab) : Op_rank (RR LR) := by
  intro σ μ hR p y
  obtain ⟨n, hN, hV, hW⟩ := hR.nn
  have hn := hN.1
  unfold q11_rank q12_rank q11_pollNow
  dsimp only [lt]
  rcases one_cases hN p with ⟨h1, h2⟩ | ⟨i, hi, rfl, h1, h2⟩
  · rw [h1, h2]
    exact ⟨(.inl 2, σ), (0, up μ 0 0 1), rfl, by simp only [Bool.false_eq_true, not_false_eq_true, if_true, up_at, if_pos lt01, Option.bind_some], sx_thr (i := 0) (by decide) (by decide) rfl, hR.t0⟩
  · rw [h1, h2]
    simp only [Option.bind_some, not_true_eq_false, if_false, up_at, if_neg lt0]
    obtain ⟨⟨s, es, hC⟩, u, eu, hM⟩ := polls (ν := up μ 0 0 0) L hR hV hW up0_1
    have u1 : u 1 = μ 1 := (hM.2.2.2.1 1 (by decide) (by decide) (by decide)).trans up0_1
    have u00 : u 0 0 = 0 := by rw [hM.2.2.2.2.1 0 (by omega), up_at]
    have hRR : RR LR s u := ((hR.heldC hC).t0).heldM hM
    rw [es, eu]
    simp only [Option.bind_some]
    rw [hM.1, hM.2.1, isOf_isIn, isIn_bs hn hi]
    show ∃ r1 r2, Option.bind (q5_rankAt s (nI i) y) _ = some r1 ∧ _
    unfold q5_rankAt
    rw [hC.2.2.2.1, isIn_bs hn hi, hC.2.2.1, bcount_bs hn]
    obtain ⟨r, er, hr⟩ := inRank_ok L (R := fRn (μ 1)) y hn hW hN.2.2 u1 ⟨_, _, _, hR.2.2.2.2.2⟩ hM hi
    have hct := cn_top (P := fRn (μ 1)) n
    by_cases hv : fVt ab (μ 1) i = true
    · rw [if_pos hv, er]
      rcases rng_cases y (n := cn (fRn (μ 1)) n) (by omega) with ⟨q1, q2⟩ | ⟨K, hK, rfl, q1, q2⟩
      · have hr' : r = -1 := by
          rcases hr with ⟨h, -⟩ | ⟨x, x1, x2, x3, -⟩
          · exact h
          · exfalso
            have := ps_ct (f := fav (μ 1) i) x1 x2
            rw [← x3] at q1
            rcases q1 with q | q
            · exact nI_pos (by omega) q
            · exact nI_ge this (by omega) q
        subst hr'
        have hc : (¬ fVt ab (μ 1) i = true ∨ y < 0) ∨ nI (cn (fRn (μ 1)) n) ≤ y := q1.elim (fun h => Or.inl (Or.inr h)) Or.inr
        rw [if_pos hc]
        exact ⟨_, _, rfl, rfl, sx_ok u00, hRR⟩
      · obtain ⟨x, x1, x2, x3⟩ := ps_sur (R := fRn (μ 1)) (f := fav (μ 1) i) n K hK
        have hr' : r = nI x := by
          rcases hr with ⟨-, h⟩ | ⟨z, z1, z2, z3, z4⟩
          · exact absurd (congrArg nI x3) (h x x1 x2)
          · have hpz := ps_ct (f := fav (μ 1) i) z1 z2
            have : ps (fRn (μ 1)) (fav (μ 1) i) n z = K := (nI_eq (by omega) (by omega)).mp z3
            rw [z4, ps_inj z1 z2 x1 x2 (this.trans x3.symm)]
        subst hr'
        have hc : ¬ ((¬ fVt ab (μ 1) i = true ∨ nI K < 0) ∨ nI (cn (fRn (μ 1)) n) ≤ nI K) := fun q => by
          rcases q with (q | q) | q
          · exact q hv
          · exact q1 (Or.inl q)
          · exact q1 (Or.inr q)
        have e7 := (hC.2.2.2.2.1 i hi hv x x1 x2).1
        rw [x3] at e7
        rw [if_neg hc, ag_nI (ix_6 i K) (by omega) (by decide), e7]
        exact ⟨_, _, rfl, rfl, sx_ok u00, hRR⟩
    · rw [if_neg hv, if_pos (Or.inl (Or.inl hv))]
      exact ⟨_, _, rfl, rfl, sx_ok u00, hRR⟩

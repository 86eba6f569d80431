/-! LAYER 2: THE TALLIES OF FIRSTS AND LASTS -/
theorem bit_bs : ∀ n, n < 7 → ∀ p, p < n → shl 1 (nI p) = nI (bs (fun k => decide (k = p)) n) := by decide +kernel
theorem out_bs {S : Nat → Bool} {n p : Nat} (hn : n ≤ 6) (hp : p < n) : nI (bs S n) &&& (shl 1 (nI p) ^^^ (-1)) = nI (bs (fun k => S k && !decide (k = p)) n) := by
  rw [bit_bs n (by omega) p hp, run_bs hn]
theorem ps0_no {S : Nat → Bool} {n : Nat} (h : cn S n = 0) {x : Nat} (hx : x < n) : S x = false := by
  cases hs : S x with
  | false => rfl
  | true =>
    have := ps_ct (R := S) (f := fun _ => 0) hx hs
    omega
theorem tallyF {fav : FavT} {ab : AbsT} {σ s : St} {m : Nat → Int32} {n : Nat} {S : Nat → Bool} (hn : n ≤ 6) (hC : HeldC fav ab σ s m n) (hS : ∀ r, r < n → S r = true → fRn m r = true) : Wo (q5_countFirst s (nI (bs S n))) (fun s' => (∀ r, r < n → S r = true → s' 10 r = nI (cn (vtB fav ab m S n r 0) n)) ∧ ∀ i, i ≠ 10 → s' i = s i) := by
  unfold q5_countFirst
  dsimp only [lt]
  have f0 : ∀ r, r < 6 → fil s 10 6 0 10 r = 0 := fun r hr => by unfold fil; rw [if_pos rfl, if_pos hr]
  have f1 : ∀ i, i ≠ 10 → fil s 10 6 0 i = s i := fun i hi => by unfold fil; rw [if_neg hi]
  have hct := cn_top (P := fRn m) n
  refine wo_bind ?_
  refine lpW2 n (fun k a w => a = nI k ∧ (∀ r, r < n → S r = true → w 10 r = nI (cn (vtB fav ab m S n r 0) k)) ∧ ∀ i, i ≠ 10 → w i = s i) ?_ fuelN 0 0 _ (Nat.zero_le _) (fuel_ok (by omega)) ⟨rfl, fun r hr _ => f0 r (by omega), f1⟩
  rintro rec k a w hk ⟨rfl, w1, w2⟩ IH
  have hC' := hC.re w2
  rw [hC'.1]
  refine wo_ite (fun hlt => ?_) (fun hge => ?_)
  · have hkn : k < n := (nI_ltI (by omega) (by omega)).mp hlt
    rw [hC'.2.2.2.1, isIn_bs hn hkn, hC'.2.2.1, bcount_bs hn]
    have elt : ∀ t, t < cn (fRn m) n → fVt ab m k = true → ∃ y, y < n ∧ fRn m y = true ∧ ps (fRn m) (fav m k) n y = t ∧ ag w 7 36 (nI k * 6 + nI t) = some (nI y) := fun t ht hv => by
      obtain ⟨y, y1, y2, y3⟩ := ps_sur (R := fRn m) (f := fav m k) n t ht
      refine ⟨y, y1, y2, y3, ?_⟩
      have e7 := (hC'.2.2.2.2.1 k hkn hv y y1 y2).1
      rw [y3] at e7
      rw [ag_nI (ix_6 k t) (by omega) (by decide), e7]
    refine wo_bind (wo_mono (Q := fun y => (∃ x, x < n ∧ S x = true ∧ ps S (fav m k) n x = 0 ∧ fVt ab m k = true ∧ y = nI (ps (fRn m) (fav m k) n x)) ∨ (y = nI (cn (fRn m) n) ∧ ∀ x, x < n → S x = true → fVt ab m k = false)) ?_ ?_)
    · by_cases hv : fVt ab m k = true
      · rw [if_pos hv]
        by_cases hc0 : cn S n = 0
        · refine lpW1 (cn (fRn m) n) (fun t q => q = nI t) ?_ fuelN 0 0 (Nat.zero_le _) (fuel_ok (by omega)) rfl
          rintro rec2 t q ht rfl IH2
          by_cases htc : t < cn (fRn m) n
          · obtain ⟨y, y1, y2, y3, y4⟩ := elt t htc hv
            rw [if_pos (nI_lt htc (by omega)), y4]
            simp only [Option.bind_some]
            rw [isIn_bs hn y1, ps0_no hc0 y1]
            simp only [Bool.false_eq_true, if_false, Option.bind_some, if_true]
            rw [nI_1]
            exact IH2 _ htc rfl
          · have hte : t = cn (fRn m) n := by omega
            subst hte
            rw [if_neg (Int32.lt_irrefl)]
            simp only [Option.bind_some, Bool.false_eq_true, if_false]
            exact wo_some (Or.inr ⟨rfl, fun x hx hs => by rw [ps0_no hc0 hx] at hs; cases hs⟩)
        · obtain ⟨x, x1, x2, x3⟩ := ps_sur (R := S) (f := fav m k) n 0 (by omega)
          have hxc := ps_ct (f := fav m k) x1 (hS x x1 x2)
          refine lpW1 (ps (fRn m) (fav m k) n x) (fun t q => q = nI t) ?_ fuelN 0 0 (Nat.zero_le _) (fuel_ok (by omega)) rfl
          rintro rec2 t q ht rfl IH2
          obtain ⟨y, y1, y2, y3, y4⟩ := elt t (by omega) hv
          rw [if_pos (nI_lt (show t < cn (fRn m) n by omega) (by omega)), y4]
          simp only [Option.bind_some]
          rw [isIn_bs hn y1]
          by_cases hte : t = ps (fRn m) (fav m k) n x
          · have hyx : y = x := ps_inj y1 y2 x1 (hS x x1 x2) (y3.trans hte)
            rw [hyx, x2]
            simp only [if_true, Option.bind_some, Bool.false_eq_true, if_false]
            exact wo_some (Or.inl ⟨x, x1, x2, x3, hv, by rw [hte]⟩)
          · have hyx : y ≠ x := fun e => hte (by rw [← y3, e])
            have hSy : S y = false := by
              cases hs : S y with
              | false => rfl
              | true =>
                have ha := (ps_ah (f := fav m k) y1 y2 hyx).mpr (by omega)
                have := ps_lt (R := S) y1 hs ha
                omega
            rw [hSy]
            simp only [Bool.false_eq_true, if_false, Option.bind_some, if_true]
            rw [nI_1]
            exact IH2 _ (by omega) rfl
      · rw [if_neg hv]
        refine lpW1 0 (fun t q => q = nI (cn (fRn m) n)) ?_ fuelN 0 _ (Nat.zero_le _) (fuel_ok (by omega)) rfl
        rintro rec2 t q ht rfl IH2
        rw [if_neg (Int32.lt_irrefl)]
        simp only [Option.bind_some, Bool.false_eq_true, if_false]
        exact wo_some (Or.inr ⟨rfl, fun x hx hs => (Bool.not_eq_true _ |>.mp hv)⟩)
    · intro y hy
      rcases hy with ⟨x, x1, x2, x3, hv, rfl⟩ | ⟨rfl, hno⟩
      · have hxc := ps_ct (f := fav m k) x1 (hS x x1 x2)
        have e7 := (hC'.2.2.2.2.1 k hkn hv x x1 (hS x x1 x2)).1
        rw [if_pos (nI_lt hxc (by omega)), ag_nI (ix_6 k _) (by omega) (by decide), e7]
        simp only [Option.bind_some]
        rw [ag_nI (k := x) rfl (by omega) (by decide)]
        simp only [Option.bind_some]
        rw [sa_nI (k := x) rfl (by omega) (by decide), w1 x x1 x2, nI_1, nI_1]
        simp only [Option.bind_some]
        refine IH _ _ hkn ⟨rfl, fun r hr hs => ?_, fun i hi => by rw [up_pl hi]; exact w2 i hi⟩
        have c1 := cn_s (P := vtB fav ab m S n r 0) (r := k)
        by_cases hrx : r = x
        · subst hrx
          have hb : vtB fav ab m S n r 0 k = true := by unfold vtB; rw [hv, hs, x3]; rfl
          rw [hb, if_pos rfl] at c1
          rw [up_at, c1]
        · have hb : vtB fav ab m S n r 0 k = false := by
            unfold vtB
            rw [hv, hs, Bool.true_and, Bool.true_and]
            refine decide_eq_false (fun q => ?_)
            have hp := ps_ct (f := fav m k) hr hs
            have hcs := cn_top (P := S) n
            have q : ps S (fav m k) n r = 0 := (nI_eq (by omega) (by omega)).mp q
            exact hrx (ps_inj hr hs x1 x2 (q.trans x3.symm))
          rw [hb, if_neg (by decide)] at c1
          rw [up_off hrx, w1 r hr hs, c1]
          rfl
      · rw [if_neg (Int32.lt_irrefl)]
        simp only [Option.bind_some]
        rw [nI_1]
        refine IH _ _ hkn ⟨rfl, fun r hr hs => ?_, w2⟩
        have c1 := cn_s (P := vtB fav ab m S n r 0) (r := k)
        have hb : vtB fav ab m S n r 0 k = false := by unfold vtB; rw [hno r hr hs]; rfl
        rw [hb, if_neg (by decide)] at c1
        rw [w1 r hr hs, c1]
        rfl
  · have : k = n := by
      have : ¬ k < n := fun q => hge (nI_lt q (by omega))
      omega
    subst this
    exact wo_some (wo_some ⟨w1, w2⟩)
/-- the one in a rank of a voter, in the class -/
theorem rankAt_ok {fav : FavT} {ab : AbsT} {σ s : St} {m : Nat → Int32} {n v : Nat} (y : Int32) (hn : n ≤ 6) (hC : HeldC fav ab σ s m n) (hv : v < n) : ∃ r, q5_rankAt s (nI v) y = some r ∧ ((r = -1 ∧ ∀ x, x < n → vtB fav ab m (fRn m) n x y v = false) ∨ ∃ x, x < n ∧ vtB fav ab m (fRn m) n x y v = true ∧ r = nI x ∧ ∀ z, z < n → vtB fav ab m (fRn m) n z y v = true → z = x) := by
  unfold q5_rankAt
  have hct := cn_top (P := fRn m) n
  rw [hC.2.2.2.1, isIn_bs hn hv, hC.2.2.1, bcount_bs hn]
  by_cases hvt : fVt ab m v = true
  · rcases rng_cases y (n := cn (fRn m) n) (by omega) with ⟨q1, q2⟩ | ⟨K, hK, rfl, q1, q2⟩
    · refine ⟨-1, by rw [if_pos (q1.elim (fun h => Or.inl (Or.inr h)) Or.inr)], Or.inl ⟨rfl, fun x hx => ?_⟩⟩
      cases hb : vtB fav ab m (fRn m) n x y v with
      | false => rfl
      | true =>
        exfalso
        unfold vtB at hb
        rw [Bool.and_eq_true, Bool.and_eq_true, decide_eq_true_eq] at hb
        have hp := ps_ct (f := fav m v) hx hb.2.1
        rw [← hb.2.2] at q1
        rcases q1 with q | q
        · exact nI_pos (by omega) q
        · exact nI_ge hp (by omega) q
    · obtain ⟨x, x1, x2, x3⟩ := ps_sur (R := fRn m) (f := fav m v) n K hK
      have e7 := (hC.2.2.2.2.1 v hv hvt x x1 x2).1
      rw [x3] at e7
      refine ⟨nI x, ?_, Or.inr ⟨x, x1, ?_, rfl, fun z hz hb => ?_⟩⟩
      · rw [if_neg (fun q => by
          rcases q with (q | q) | q
          · exact q hvt
          · exact q1 (Or.inl q)
          · exact q1 (Or.inr q)), ag_nI (ix_6 v K) (by omega) (by decide), e7]
        rfl
      · unfold vtB
        rw [hvt, x2, x3, decide_eq_true rfl]
        rfl
      · unfold vtB at hb
        rw [Bool.and_eq_true, Bool.and_eq_true, decide_eq_true_eq] at hb
        have hp := ps_ct (f := fav m v) hz hb.2.1
        have q : ps (fRn m) (fav m v) n z = K := (nI_eq (by omega) (by omega)).mp hb.2.2
        exact ps_inj hz hb.2.1 x1 x2 (q.trans x3.symm)
  · refine ⟨-1, by rw [if_pos (Or.inl (Or.inl hvt))], Or.inl ⟨rfl, fun x hx => ?_⟩⟩
    unfold vtB
    rw [Bool.not_eq_true _ |>.mp hvt]
    rfl
theorem neg_up (k : Nat) : -nI k - 1 = -nI (k + 1) := by
  rw [← nI_1, Int32.neg_add, Int32.sub_eq_add_neg]
theorem tallyL {fav : FavT} {ab : AbsT} {σ s : St} {m : Nat → Int32} {n : Nat} (hn : n ≤ 6) (hC : HeldC fav ab σ s m n) : Wo (q5_countLast s) (fun s' => (∀ r, r < n → s' 10 r = -nI (cn (vtB fav ab m (fRn m) n r (nI (cn (fRn m) n) - 1)) n)) ∧ ∀ i, i ≠ 10 → s' i = s i) := by
  unfold q5_countLast
  dsimp only [lt]
  have f0 : ∀ r, r < 6 → fil s 10 6 0 10 r = 0 := fun r hr => by unfold fil; rw [if_pos rfl, if_pos hr]
  have f1 : ∀ i, i ≠ 10 → fil s 10 6 0 i = s i := fun i hi => by unfold fil; rw [if_neg hi]
  refine wo_bind ?_
  refine lpW2 n (fun k a w => a = nI k ∧ (∀ r, r < n → w 10 r = -nI (cn (vtB fav ab m (fRn m) n r (nI (cn (fRn m) n) - 1)) k)) ∧ ∀ i, i ≠ 10 → w i = s i) ?_ fuelN 0 0 _ (Nat.zero_le _) (fuel_ok (by omega)) ⟨rfl, fun r hr => (f0 r (by omega)).trans (by decide : (0 : Int32) = -nI 0), f1⟩
  rintro rec k a w hk ⟨rfl, w1, w2⟩ IH
  have hC' := hC.re w2
  rw [hC'.1]
  refine wo_ite (fun hlt => ?_) (fun hge => ?_)
  · have hkn : k < n := (nI_ltI (by omega) (by omega)).mp hlt
    have e8 : w 6 8 = nI (cn (fRn m) n) := by rw [hC'.2.2.1, bcount_bs hn]
    rw [e8]
    obtain ⟨r, er, hr⟩ := rankAt_ok (nI (cn (fRn m) n) - 1) hn hC' hkn
    refine wo_st er ?_
    rcases hr with ⟨rfl, hno⟩ | ⟨x, x1, x2, rfl, x4⟩
    · simp only [not_true_eq_false, if_false, Option.bind_some]
      rw [nI_1]
      refine IH _ _ hkn ⟨rfl, fun r hr => ?_, w2⟩
      have c1 := cn_s (P := vtB fav ab m (fRn m) n r (nI (cn (fRn m) n) - 1)) (r := k)
      rw [hno r hr, if_neg (by decide)] at c1
      have c1 : cn (vtB fav ab m (fRn m) n r (nI (cn (fRn m) n) - 1)) (k + 1) = cn (vtB fav ab m (fRn m) n r (nI (cn (fRn m) n) - 1)) k := c1
      rw [w1 r hr, c1]
    · rw [if_pos (nI_m1 (by omega)), ag_nI (k := x) rfl (by omega) (by decide)]
      simp only [Option.bind_some]
      rw [sa_nI (k := x) rfl (by omega) (by decide), w1 x x1, neg_up, nI_1]
      simp only [Option.bind_some]
      refine IH _ _ hkn ⟨rfl, fun r hr => ?_, fun i hi => by rw [up_pl hi]; exact w2 i hi⟩
      have c1 := cn_s (P := vtB fav ab m (fRn m) n r (nI (cn (fRn m) n) - 1)) (r := k)
      by_cases hrx : r = x
      · subst hrx
        rw [x2, if_pos rfl] at c1
        rw [up_at, c1]
      · have hb : vtB fav ab m (fRn m) n r (nI (cn (fRn m) n) - 1) k = false := by
          cases hb : vtB fav ab m (fRn m) n r (nI (cn (fRn m) n) - 1) k with
          | false => rfl
          | true => exact absurd (x4 r hr hb) hrx
        rw [hb, if_neg (by decide)] at c1
        have c1 : cn (vtB fav ab m (fRn m) n r (nI (cn (fRn m) n) - 1)) (k + 1) = cn (vtB fav ab m (fRn m) n r (nI (cn (fRn m) n) - 1)) k := c1
        rw [up_off hrx, w1 r hr, c1]
  · have : k = n := by
      have : ¬ k < n := fun q => hge (nI_lt q (by omega))
      omega
    subst this
    exact wo_some (wo_some ⟨w1, w2⟩)

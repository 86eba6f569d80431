/-! LAYER 2: COUPLES -/
def lw (x : Nat) : Nat := if x.testBit 0 = true then 0 else if x.testBit 1 = true then 1 else if x.testBit 2 = true then 2 else if x.testBit 3 = true then 3 else if x.testBit 4 = true then 4 else 5
def wout (x p : Nat) : Nat := if x.testBit p = true then x - 2 ^ p else x
theorem least_ok : ∀ x, x < 64 → 0 < x → q11_leastOf (nI x) = some (nI (lw x)) := by decide +kernel
theorem lowest_ok : ∀ x, x < 64 → 0 < x → q12_lowest (nI x) = some (nI (lw x)) := by decide +kernel
theorem wout_ok : ∀ x, x < 64 → ∀ p, p < 6 → q11_without (nI x) (nI p) = nI (wout x p) := by decide +kernel
theorem wout_lw : ∀ x, x < 64 → 0 < x → wout x (lw x) < x ∧ pcn (wout x (lw x)) 31 + 1 = pcn x 31 := by decide +kernel
theorem wout_pcn : ∀ x, x < 64 → ∀ p, p < 6 → pcn (wout x p) 31 ≤ pcn x 31 := by decide +kernel
theorem wout_le (x p : Nat) : wout x p ≤ x := by
  unfold wout
  split
  · exact Nat.sub_le _ _
  · exact Nat.le_refl _
theorem lw_lt : ∀ n, n < 7 → ∀ x, x < 2 ^ n → 0 < x → lw x < n := by decide +kernel
theorem pcn_pos : ∀ x, x < 64 → 0 < x → 0 < pcn x 31 := by decide +kernel
theorem pcn_6 : ∀ x, x < 64 → pcn x 31 ≤ 6 := by decide +kernel
/-- the table of pairings stands in both -/
def PTab (s u : St) (K : Nat) : Prop := ∀ x, x < K → s 29 x = u 16 x
theorem pair_ok {σ σ' ν : St} {m : Nat → Int32} {n : Nat} (hn : n ≤ 6) (hM : MetV σ σ' m n) (h1 : ν 1 = m) (h3 : m 3 = nI n) : R2 (q1_pairUp σ') (q12_allBest ν) (fun s u => PTab s u (2 ^ n) ∧ (∀ i, i ≠ 29 → s i = σ' i) ∧ ∀ i, i ≠ 16 → u i = ν i) := by
  have hp := pow_le6 hn
  have hpp : 0 < 2 ^ n := Nat.pow_pos (by omega)
  unfold q1_pairUp q12_allBest
  dsimp only [lt]
  refine r2_L (sa_nI (k := 0) rfl (by decide) (by decide)) ?_
  refine r2_R (sa_nI (k := 0) rfl (by decide) (by decide)) ?_
  refine r2_bind ?_
  refine lpR22 (2 ^ n) (fun k p s q u => 1 ≤ k ∧ p = nI k ∧ q = nI k ∧ PTab s u k ∧ (∀ i, i ≠ 29 → s i = σ' i) ∧ ∀ i, i ≠ 16 → u i = ν i) ?_ fuelN fuelN 1 1 _ 1 _ hpp (fuel_ok (by omega)) (fuel_ok (by omega)) ⟨Nat.le_refl _, rfl, rfl, fun x hx => ?_, fun i hi => up_pl hi, fun i hi => up_pl hi⟩
  · rintro r1 r2 k p s q u hk ⟨hk1, rfl, rfl, hT, hs, hu⟩ IH
    have s3 : s 27 3 = nI n := by rw [hs 27 (by decide)]; exact hM.1
    have s4 : s 27 4 = nI (2 ^ n - 1) := by rw [hs 27 (by decide)]; exact hM.2.1
    have u1 : u 1 = m := (hu 1 (by decide)).trans h1
    refine r2_R (all_ok (n := n) (by rw [u1]; exact h3)) ?_
    rw [s4, all_nI n (by omega)]
    refine r2_ite Iff.rfl (fun hle => ?_) (fun hnle => ?_)
    · have hkn : k < 2 ^ n := by
        have := (nI_leI (by omega) (by omega)).mp hle
        omega
      refine r2_L (least_ok k (by omega) hk1) ?_
      refine r2_R (lowest_ok k (by omega) hk1) ?_
      have hl := lw_lt n (by omega) k hkn hk1
      obtain ⟨hw, -⟩ := wout_lw k (by omega) hk1
      have eW : nI k &&& (shl 1 (nI (lw k)) ^^^ -1) = nI (wout k (lw k)) := wout_ok k (by omega) (lw k) (by omega)
      rw [eW, wout_ok k (by omega) (lw k) (by omega)]
      refine r2_L (ag_nI (k := wout k (lw k)) rfl (by omega) (by decide)) ?_
      refine r2_R (ag_nI (k := wout k (lw k)) rfl (by omega) (by decide)) ?_
      refine r2_L (sa_nI (k := k) rfl (by omega) (by decide)) ?_
      refine r2_R (sa_nI (k := k) rfl (by omega) (by decide)) ?_
      refine r2_bind ?_
      rw [nI_1]
      refine lpR22 n (fun j p s' q u' => lw k + 1 ≤ j ∧ p = nI j ∧ q = nI j ∧ PTab s' u' (k + 1) ∧ (∀ i, i ≠ 29 → s' i = σ' i) ∧ ∀ i, i ≠ 16 → u' i = ν i) ?_ fuelN fuelN (lw k + 1) _ _ _ _ hl (fuel_ok (by omega)) (fuel_ok (by omega)) ⟨Nat.le_refl _, rfl, rfl, fun x hx => ?_, fun i hi => by rw [up_pl hi]; exact hs i hi, fun i hi => by rw [up_pl hi]; exact hu i hi⟩
      · rintro t1 t2 j p s' q u' hj ⟨hlj, rfl, rfl, hT', hs', hu'⟩ IH2
        have s3' : s' 27 3 = nI n := by rw [hs' 27 (by decide)]; exact hM.1
        have u1' : u' 1 = m := (hu' 1 (by decide)).trans h1
        refine r2_R ag3 ?_
        rw [s3', u1', h3]
        refine r2_ite Iff.rfl (fun hlt => ?_) (fun hge => ?_)
        · have hjn : j < n := (nI_ltI (by omega) (by omega)).mp hlt
          rw [isOf_isIn]
          by_cases hc : q11_isIn (nI (wout k (lw k))) (nI j) = true
          · rw [if_pos hc, if_pos hc]
            unfold q1_pairedWith
            have hwl := wout_le (wout k (lw k)) j
            have eW2 : nI (wout k (lw k)) &&& (shl 1 (nI j) ^^^ -1) = nI (wout (wout k (lw k)) j) := wout_ok _ (by omega) j (by omega)
            rw [eW2, wout_ok _ (by omega) j (by omega), ag_nI (k := k) rfl (by omega) (by decide), ag_nI (ix_6 (lw k) j) (by omega) (by decide), ag_nI (k := wout (wout k (lw k)) j) rfl (by omega) (by decide), ag_nI (i := 16) (k := k) rfl (by omega) (by decide), frM u1' (by omega) (by omega), ag_nI (i := 16) (k := wout (wout k (lw k)) j) rfl (by omega) (by decide), hs' 28 (by decide), hM.2.2.1 _ _ hl hjn, hT' k (by omega), hT' (wout (wout k (lw k)) j) (by omega)]
            simp only [Option.bind_some]
            rw [sa_nI (k := k) rfl (by omega) (by decide), sa_nI (k := k) rfl (by omega) (by decide), imax_gr]
            simp only [Option.bind_some]
            rw [nI_1]
            refine IH2 _ _ _ _ hjn ⟨by omega, rfl, rfl, fun x hx => ?_, fun i hi => by rw [up_pl hi]; exact hs' i hi, fun i hi => by rw [up_pl hi]; exact hu' i hi⟩
            by_cases hxk : x = k
            · subst hxk; rw [up_at, up_at]
            · rw [up_off hxk, up_off hxk]; exact hT' x hx
          · rw [if_neg hc, if_neg hc]
            simp only [Option.bind_some]
            rw [nI_1]
            exact IH2 _ _ _ _ hjn ⟨by omega, rfl, rfl, hT', hs', hu'⟩
        · refine r2_some ?_
          show R2 (r1 (nI k + 1) s') (r2 (nI k + 1) u') _
          rw [nI_1]
          exact IH _ _ _ _ hkn ⟨by omega, rfl, rfl, hT', hs', hu'⟩
      · by_cases hxk : x = k
        · subst hxk; rw [up_at, up_at]; exact hT _ (by omega)
        · rw [up_off hxk, up_off hxk]; exact hT x (by omega)
    · have : k = 2 ^ n := by
        have : ¬ k ≤ 2 ^ n - 1 := fun q => hnle (nI_le q (by omega))
        omega
      subst this
      exact r2_some (r2_some ⟨hT, hs, hu⟩)
  · have : x = 0 := by omega
    subst this
    rw [up_at, up_at]
/-- the first partner: the least that fits, or none -/
def fpk (M : Nat → Bool) (n : Nat) : Nat → Int32
  | 0 => -1
  | t + 1 => if M (n - 1 - t) = true then nI (n - 1 - t) else fpk M n t
theorem fpk_s {M : Nat → Bool} {n t : Nat} : fpk M n (t + 1) = if M (n - 1 - t) = true then nI (n - 1 - t) else fpk M n t := rfl
theorem fpk_in {M : Nat → Bool} {n : Nat} : ∀ t, t ≤ n → fpk M n t = -1 ∨ ∃ q, n - t ≤ q ∧ q < n ∧ M q = true ∧ fpk M n t = nI q
  | 0, _ => Or.inl rfl
  | t + 1, h => by
    rw [fpk_s]
    split
    · rename_i hc
      exact Or.inr ⟨n - 1 - t, by omega, by omega, hc, rfl⟩
    · exact (fpk_in t (by omega)).imp id (fun ⟨q, h1, h2, h3, h4⟩ => ⟨q, by omega, h2, h3, h4⟩)
def fitB (m : Nat → Int32) (T : Nat → Int32) (k q : Nat) : Bool := (wout k (lw k)).testBit q && decide (fr m (lw k) q + T (wout (wout k (lw k)) q) = T k)
theorem first_ok {σ σ' s : St} {m : Nat → Int32} {n k : Nat} (hn : n ≤ 6) (hM : MetV σ σ' m n) (hs : ∀ i, i ≠ 29 → s i = σ' i) (hk : k < 2 ^ n) (hk1 : 0 < k) : q1_firstPartner s (nI k) (nI (wout k (lw k))) (nI (lw k)) = some (if s 29 (wout k (lw k)) = s 29 k then -1 else fpk (fitB m (s 29) k) n (n - 1 - lw k)) := by
  have hp := pow_le6 hn
  have hl := lw_lt n (by omega) k hk hk1
  obtain ⟨hw, -⟩ := wout_lw k (by omega) hk1
  have s3 : s 27 3 = nI n := by rw [hs 27 (by decide)]; exact hM.1
  have h : Wo (q1_firstPartner s (nI k) (nI (wout k (lw k))) (nI (lw k))) (fun r => r = if s 29 (wout k (lw k)) = s 29 k then -1 else fpk (fitB m (s 29) k) n (n - 1 - lw k)) := by
    unfold q1_firstPartner
    dsimp only [lt]
    refine wo_st (ag_nI (k := wout k (lw k)) rfl (by omega) (by decide)) ?_
    refine wo_st (ag_nI (k := k) rfl (by omega) (by decide)) ?_
    by_cases hc : s 29 (wout k (lw k)) = s 29 k
    · rw [if_pos hc, if_pos hc]
      exact wo_some rfl
    · rw [if_neg hc, if_neg hc, nI_1]
      refine wo_bind ?_
      refine lpW1 n (fun j q => lw k + 1 ≤ j ∧ q = nI j ∧ fpk (fitB m (s 29) k) n (n - j) = fpk (fitB m (s 29) k) n (n - 1 - lw k)) ?_ fuelN (lw k + 1) _ hl (fuel_ok (by omega)) ⟨Nat.le_refl _, rfl, by rw [show n - (lw k + 1) = n - 1 - lw k from by omega]⟩
      rintro rec j q hj ⟨hlj, rfl, hf⟩ IH
      rw [s3]
      refine wo_ite (fun hlt => ?_) (fun hge => ?_)
      · have hjn : j < n := (nI_ltI (by omega) (by omega)).mp hlt
        rw [show n - j = (n - j - 1) + 1 from by omega, fpk_s, show n - 1 - (n - j - 1) = j from by omega] at hf
        have hwl := wout_le (wout k (lw k)) j
        have et : (if q11_isIn (nI (wout k (lw k))) (nI j) = true then (Option.bind (q1_pairedWith s (nI (wout k (lw k))) (nI (lw k)) (nI j)) fun x29_ => Option.bind (ag s 29 64 (nI k)) fun x31_ => if x29_ = x31_ then (some true) else (some false)) else (some false)) = some (fitB m (s 29) k j) := by
          unfold fitB
          rw [isIn_bit _ (by omega) j (by omega)]
          cases hb : (wout k (lw k)).testBit j with
          | false => rfl
          | true =>
            unfold q1_pairedWith
            rw [if_pos rfl, wout_ok _ (by omega) j (by omega), ag_nI (ix_6 (lw k) j) (by omega) (by decide), ag_nI (k := wout (wout k (lw k)) j) rfl (by omega) (by decide), ag_nI (k := k) rfl (by omega) (by decide), hs 28 (by decide), hM.2.2.1 _ _ hl hjn]
            simp only [Option.bind_some, Bool.true_and]
            by_cases hx : fr m (lw k) j + s 29 (wout (wout k (lw k)) j) = s 29 k
            · rw [if_pos hx, decide_eq_true hx]
            · rw [if_neg hx, decide_eq_false hx]
        rw [et]
        simp only [Option.bind_some]
        by_cases hx : fitB m (s 29) k j = true
        · rw [if_pos hx] at hf ⊢
          exact wo_some (wo_some hf)
        · rw [if_neg hx] at hf ⊢
          rw [nI_1]
          exact IH _ hjn ⟨by omega, rfl, by rw [show n - (j + 1) = n - j - 1 from by omega]; exact hf⟩
      · have : j = n := by
          have : ¬ j < n := fun q => hge (nI_lt q (by omega))
          omega
        subst this
        rw [Nat.sub_self] at hf
        exact wo_some (wo_some hf)
  obtain ⟨r, e, rfl⟩ := h
  exact e
theorem firstM_ok {u : St} {m : Nat → Int32} {n k : Nat} (hn : n ≤ 6) (h1 : u 1 = m) (hk : k < 2 ^ n) (hk1 : 0 < k) : Wo (loop2 (fun (rec55_ : Int32 → Int32 → Option (Int32 × Int32)) (with58_ : Int32) (o59_ : Int32) =>
    Option.bind (if nI (lw k) < o59_ then (Option.bind (ag u 16 128 (nI (wout k (lw k)))) fun x67_ =>
    Option.bind (ag u 16 128 (nI k)) fun x69_ =>
    if ¬ x67_ = x69_ then (some true) else (some false)) else (some false)) fun t64_ =>
    if t64_ = true then
    Option.bind (Option.bind (if q12_isOf (nI (wout k (lw k))) o59_ = true then (Option.bind (q12_friends u (nI (lw k)) o59_) fun x81_ =>
    Option.bind (ag u 16 128 (nI (wout k (lw k)) &&& ((shl 1 o59_) ^^^ (-1)))) fun x83_ =>
    Option.bind (ag u 16 128 (nI k)) fun x85_ =>
    if (x81_ + x83_) = x85_ then (some true) else (some false)) else (some false)) fun t78_ =>
    if t78_ = true then (some (o59_)) else (some (with58_))) fun y73_ =>
    rec55_ y73_ (o59_ + (-1))
    else (some (with58_, o59_))) fuelN (-1 : Int32) (nI n - 1)) (fun r => r.1 = if u 16 (wout k (lw k)) = u 16 k then -1 else fpk (fitB m (u 16) k) n (n - 1 - lw k)) := by
  have hp := pow_le6 hn
  have hl := lw_lt n (by omega) k hk hk1
  obtain ⟨hw, -⟩ := wout_lw k (by omega) hk1
  have epr : ∀ t, t < n → nI (n - t) - 1 = nI (n - 1 - t) := fun t ht => by
    have := nI_pred (n - 1 - t)
    rw [show n - 1 - t + 1 = n - t from by omega] at this
    exact this
  by_cases hc : u 16 (wout k (lw k)) = u 16 k
  · rw [if_pos hc]
    refine lpW2 0 (fun t a o => a = -1) ?_ fuelN 0 (-1) (nI n - 1) (Nat.le_refl _) (fuel_ok (by omega)) rfl
    rintro rec t a o ht rfl IH
    rw [ag_nI (k := wout k (lw k)) rfl (by omega) (by decide), ag_nI (k := k) rfl (by omega) (by decide)]
    simp only [Option.bind_some, hc, not_true_eq_false, if_false, ite_self, Bool.false_eq_true]
    exact wo_some rfl
  · rw [if_neg hc]
    refine lpW2 (n - 1 - lw k) (fun t a o => a = fpk (fitB m (u 16) k) n t ∧ o = nI (n - t) - 1) ?_ fuelN 0 (-1) (nI n - 1) (Nat.zero_le _) (fuel_ok (by omega)) ⟨rfl, rfl⟩
    rintro rec t a o ht ⟨rfl, rfl⟩ IH
    rw [epr t (by omega)]
    by_cases hlt : t < n - 1 - lw k
    · have hwl := wout_le (wout k (lw k)) (n - 1 - t)
      rw [if_pos (nI_lt (by omega) (by omega)), ag_nI (k := wout k (lw k)) rfl (by omega) (by decide), ag_nI (k := k) rfl (by omega) (by decide)]
      simp only [Option.bind_some, hc, not_false_eq_true, if_true]
      have eW2 : nI (wout k (lw k)) &&& (shl 1 (nI (n - 1 - t)) ^^^ -1) = nI (wout (wout k (lw k)) (n - 1 - t)) := wout_ok _ (by omega) _ (by omega)
      have et : (if q12_isOf (nI (wout k (lw k))) (nI (n - 1 - t)) = true then (Option.bind (q12_friends u (nI (lw k)) (nI (n - 1 - t))) fun x81_ => Option.bind (ag u 16 128 (nI (wout k (lw k)) &&& ((shl 1 (nI (n - 1 - t))) ^^^ (-1)))) fun x83_ => if (x81_ + x83_) = u 16 k then (some true) else (some false)) else (some false)) = some (fitB m (u 16) k (n - 1 - t)) := by
        unfold fitB
        rw [isOf_isIn, isIn_bit _ (by omega) _ (by omega)]
        cases hb : (wout k (lw k)).testBit (n - 1 - t) with
        | false => rfl
        | true =>
          rw [if_pos rfl, eW2, frM h1 (by omega) (by omega), ag_nI (k := wout (wout k (lw k)) (n - 1 - t)) rfl (by omega) (by decide)]
          simp only [Option.bind_some, Bool.true_and]
          by_cases hx : fr m (lw k) (n - 1 - t) + u 16 (wout (wout k (lw k)) (n - 1 - t)) = u 16 k
          · rw [if_pos hx, decide_eq_true hx]
          · rw [if_neg hx, decide_eq_false hx]
      rw [et]
      simp only [Option.bind_some]
      have e' : nI (n - 1 - t) + -1 = nI (n - (t + 1)) - 1 := by
        rw [show n - (t + 1) = n - 1 - t from by omega, Int32.sub_eq_add_neg]
      by_cases hx : fitB m (u 16) k (n - 1 - t) = true
      · rw [if_pos hx]
        simp only [Option.bind_some]
        rw [e']
        exact IH _ _ hlt ⟨by rw [fpk_s, if_pos hx], rfl⟩
      · rw [if_neg hx]
        simp only [Option.bind_some]
        rw [e']
        exact IH _ _ hlt ⟨by rw [fpk_s, if_neg hx], rfl⟩
    · have : t = n - 1 - lw k := by omega
      subst this
      rw [if_neg (fun q => by
        have := (nI_ltI (by omega) (by omega)).mp q
        omega)]
      simp only [Option.bind_some, Bool.false_eq_true, if_false]
      exact wo_some rfl
theorem fit_congr {m T T' : Nat → Int32} {n k : Nat} (hk : k < 2 ^ n) (hn : n ≤ 6) (hk1 : 0 < k) (h : ∀ x, x < 2 ^ n → T x = T' x) : fitB m T k = fitB m T' k := by
  funext q
  have hp := pow_le6 hn
  have := (wout_lw k (by omega) hk1).1
  have := wout_le (wout k (lw k)) q
  unfold fitB
  rw [h _ (by omega), h k hk]
theorem op_couples {LR : LRT} : Op_couples (RR LR) := by
  intro σ μ hR p
  obtain ⟨n, hN, hV, hW⟩ := hR.nn
  have hn := hN.1
  have h3 := hN.2.2
  have hp := pow_le6 hn
  have hpp : 0 < 2 ^ n := Nat.pow_pos (by omega)
  have main : ∀ p, (p = -1 ∨ ∃ i, i < n ∧ p = nI i) → ∃ r1 r2, (Option.bind (q1_meet σ 44) fun x12_ => Option.bind (q1_pairUp x12_) fun x14_ => Option.bind (if p = (-1) then (Option.bind (q1_warmth x14_) fun x22_ => some x22_) else (Option.bind (q1_partnerOf x14_ p) fun x24_ => some x24_)) fun x16_ => some ((Sum.inr x16_ : Sum Nat Int32), x14_)) = some r1 ∧ (Option.bind (q12_allBest (up μ 0 0 0)) fun x19_ =>
      if p = (-1) then (Option.bind (q12_all x19_) fun x25_ =>
      Option.bind (ag x19_ 16 128 x25_) fun x27_ =>
      some (x27_, x19_)) else
      Option.bind (q12_all x19_) fun x29_ =>
      Option.bind (loop1 (fun (rec34_ : Int32 → Option (Sum (Int32 × St) Int32)) (left37_ : Int32) =>
      if ¬ left37_ = 0 then
      Option.bind (q12_lowest left37_) fun x44_ =>
      Option.bind (ag x19_ 1 752 3) fun x48_ =>
      Option.bind (loop2 (fun (rec55_ : Int32 → Int32 → Option (Int32 × Int32)) (with58_ : Int32) (o59_ : Int32) =>
      Option.bind (if x44_ < o59_ then (Option.bind (ag x19_ 16 128 (left37_ &&& ((shl 1 x44_) ^^^ (-1)))) fun x67_ =>
      Option.bind (ag x19_ 16 128 left37_) fun x69_ =>
      if ¬ x67_ = x69_ then (some true) else (some false)) else (some false)) fun t64_ =>
      if t64_ = true then
      Option.bind (Option.bind (if q12_isOf (left37_ &&& ((shl 1 x44_) ^^^ (-1))) o59_ = true then (Option.bind (q12_friends x19_ x44_ o59_) fun x81_ =>
      Option.bind (ag x19_ 16 128 ((left37_ &&& ((shl 1 x44_) ^^^ (-1))) &&& ((shl 1 o59_) ^^^ (-1)))) fun x83_ =>
      Option.bind (ag x19_ 16 128 left37_) fun x85_ =>
      if (x81_ + x83_) = x85_ then (some true) else (some false)) else (some false)) fun t78_ =>
      if t78_ = true then (some (o59_)) else (some (with58_))) fun y73_ =>
      rec55_ y73_ (o59_ + (-1))
      else (some (with58_, o59_))) fuelN (-1 : Int32) (x48_ - 1)) fun y52_ =>
      if x44_ = p then (some (.inl (y52_.1, x19_))) else
      if y52_.1 = p then (some (.inl (x44_, x19_))) else
      rec34_ (if y52_.1 = (-1) then (left37_ &&& ((shl 1 x44_) ^^^ (-1))) else (left37_ &&& ((shl 1 x44_) ^^^ (-1))) &&& ((shl 1 y52_.1) ^^^ (-1)))
      else (some (.inr left37_))) fuelN x29_) fun y31_ =>
      Sum.elim (fun x9 => some x9) (fun _ => some ((-1), x19_)) y31_) = some r2 ∧ Sx [2] r1 r2 ∧ RR LR r1.2 r2.2 := by
    intro p hpc
    obtain ⟨σ', eσ, hM⟩ := meet_ok hV
    obtain ⟨s, u, es, eu, hT, hs, hu⟩ := pair_ok (ν := up μ 0 0 0) hn hM up0_1 h3
    rw [eσ, eu]
    simp only [Option.bind_some]
    rw [es]
    simp only [Option.bind_some]
    have u1 : u 1 = μ 1 := (hu 1 (by decide)).trans up0_1
    have u00 : u 0 0 = 0 := by rw [hu 0 (by decide), up_at]
    have s4 : s 27 4 = nI (2 ^ n - 1) := by rw [hs 27 (by decide)]; exact hM.2.1
    have hRR : RR LR s u := by
      refine RR.sM (μ := up μ 0 0 0) ?_ (hu 1 (by decide)) (hu 2 (by decide)) (hu 4 (by decide)) (hu 5 (by decide)) (by rw [hu 0 (by decide)]) (by rw [hu 0 (by decide)]) (by rw [hu 0 (by decide)]) (by rw [hu 0 (by decide)]) (fun h => h.eq (by rw [hu 0 (by decide)]) (by rw [hu 0 (by decide)]) (by rw [hu 0 (by decide)]))
      exact (hR.met hM).t0.sC (fun i hi => hs i (by unfold keepC at hi; omega)) (by rw [hs 1 (by decide)]) (by rw [hs 32 (by decide)]) (by rw [hs 32 (by decide)])
    rw [all_ok (n := n) (by rw [u1]; exact h3), all_nI n (by omega)]
    simp only [Option.bind_some]
    by_cases hp1 : p = -1
    · rw [if_pos hp1, if_pos hp1]
      unfold q1_warmth
      rw [s4, ag_nI (k := 2 ^ n - 1) rfl (by omega) (by decide), ag_nI (k := 2 ^ n - 1) rfl (by omega) (by decide), hT _ (by omega)]
      exact ⟨_, _, rfl, rfl, sx_ok u00, hRR⟩
    · rw [if_neg hp1, if_neg hp1]
      have key : R2 (q1_partnerOf s p) (Option.bind (loop1 (fun (rec34_ : Int32 → Option (Sum (Int32 × St) Int32)) (left37_ : Int32) =>
          if ¬ left37_ = 0 then
          Option.bind (q12_lowest left37_) fun x44_ =>
          Option.bind (ag u 1 752 3) fun x48_ =>
          Option.bind (loop2 (fun (rec55_ : Int32 → Int32 → Option (Int32 × Int32)) (with58_ : Int32) (o59_ : Int32) =>
          Option.bind (if x44_ < o59_ then (Option.bind (ag u 16 128 (left37_ &&& ((shl 1 x44_) ^^^ (-1)))) fun x67_ =>
          Option.bind (ag u 16 128 left37_) fun x69_ =>
          if ¬ x67_ = x69_ then (some true) else (some false)) else (some false)) fun t64_ =>
          if t64_ = true then
          Option.bind (Option.bind (if q12_isOf (left37_ &&& ((shl 1 x44_) ^^^ (-1))) o59_ = true then (Option.bind (q12_friends u x44_ o59_) fun x81_ =>
          Option.bind (ag u 16 128 ((left37_ &&& ((shl 1 x44_) ^^^ (-1))) &&& ((shl 1 o59_) ^^^ (-1)))) fun x83_ =>
          Option.bind (ag u 16 128 left37_) fun x85_ =>
          if (x81_ + x83_) = x85_ then (some true) else (some false)) else (some false)) fun t78_ =>
          if t78_ = true then (some (o59_)) else (some (with58_))) fun y73_ =>
          rec55_ y73_ (o59_ + (-1))
          else (some (with58_, o59_))) fuelN (-1 : Int32) (x48_ - 1)) fun y52_ =>
          if x44_ = p then (some (.inl (y52_.1, u))) else
          if y52_.1 = p then (some (.inl (x44_, u))) else
          rec34_ (if y52_.1 = (-1) then (left37_ &&& ((shl 1 x44_) ^^^ (-1))) else (left37_ &&& ((shl 1 x44_) ^^^ (-1))) &&& ((shl 1 y52_.1) ^^^ (-1)))
          else (some (.inr left37_))) fuelN (nI (2 ^ n - 1))) fun y31_ =>
          Sum.elim (fun x9 => some x9) (fun _ => some ((-1), u)) y31_) (fun a b => a = b.1 ∧ b.2 = u) := by
        unfold q1_partnerOf
        dsimp only [lt]
        refine r2_bind ?_
        rw [s4]
        refine lpR21 6 (fun k a i b => ∃ x, x < 2 ^ n ∧ pcn x 31 + k ≤ 6 ∧ a = nI x ∧ i = nI k ∧ b = nI x) ?_ fuelN fuelN 0 _ 0 _ (Nat.zero_le _) (fuel_ok (by omega)) (fuel_ok (by omega)) ⟨2 ^ n - 1, by omega, by have := pcn_6 (2 ^ n - 1) (by omega); omega, rfl, rfl, rfl⟩
        rintro f g k a i b hk ⟨x, hx, hpc2, rfl, rfl, rfl⟩ IH
        by_cases hx0 : x = 0
        · subst hx0
          rw [if_neg (fun q => q.2 rfl), if_neg (fun q => q rfl)]
          exact r2_some (r2_some ⟨rfl, rfl⟩)
        · have hxp := pcn_pos x (by omega) (by omega)
          have hne : ¬ nI x = 0 := nI_ne0 (by omega) (by omega)
          rw [if_pos ⟨nI_lt (b := 6) (by omega) (by omega), hne⟩, if_pos hne]
          have hl := lw_lt n (by omega) x hx (by omega)
          obtain ⟨hw, hwp⟩ := wout_lw x (by omega) (by omega)
          have eW : nI x &&& (shl 1 (nI (lw x)) ^^^ -1) = nI (wout x (lw x)) := wout_ok x (by omega) (lw x) (by omega)
          refine r2_L (least_ok x (by omega) (by omega)) ?_
          refine r2_R (lowest_ok x (by omega) (by omega)) ?_
          refine r2_R ag3 ?_
          rw [eW, wout_ok x (by omega) (lw x) (by omega), u1, h3]
          obtain ⟨⟨y, y'⟩, ey, hy⟩ := firstM_ok (u := u) hn u1 hx (by omega)
          refine r2_L (first_ok hn hM hs hx (by omega)) ?_
          refine r2_R ey ?_
          dsimp only at hy ⊢
          rw [hT _ (by omega), hT x hx, fit_congr hx hn (by omega) hT, ← hy]
          have hyin : y = -1 ∨ ∃ q, q < n ∧ (wout x (lw x)).testBit q = true ∧ y = nI q := by
            rw [hy]
            split
            · exact Or.inl rfl
            · refine (fpk_in _ (by omega)).imp id (fun ⟨q, q1, q2, q3, q4⟩ => ⟨q, q2, ?_, q4⟩)
              unfold fitB at q3
              rw [Bool.and_eq_true] at q3
              exact q3.1
          by_cases c1 : nI (lw x) = p
          · rw [if_pos c1, if_pos c1]
            exact r2_some (r2_some ⟨rfl, rfl⟩)
          · rw [if_neg c1, if_neg c1]
            by_cases c2 : y = p
            · rw [if_pos c2, if_pos c2]
              exact r2_some (r2_some ⟨rfl, rfl⟩)
            · rw [if_neg c2, if_neg c2, nI_1]
              rcases hyin with rfl | ⟨q, hq, hqb, rfl⟩
              · rw [if_pos rfl, if_pos rfl]
                exact IH _ _ _ (by omega) ⟨wout x (lw x), by omega, by omega, rfl, rfl, rfl⟩
              · have eW2 : nI (wout x (lw x)) &&& (shl 1 (nI q) ^^^ -1) = nI (wout (wout x (lw x)) q) := wout_ok _ (by omega) q (by omega)
                have hwl := wout_le (wout x (lw x)) q
                have hwp2 := wout_pcn (wout x (lw x)) (by omega) q (by omega)
                rw [if_neg (nI_m1 (by omega)), if_neg (nI_m1 (by omega)), eW2, wout_ok _ (by omega) q (by omega)]
                exact IH _ _ _ (by omega) ⟨wout (wout x (lw x)) q, by omega, by omega, rfl, rfl, rfl⟩
      obtain ⟨a, b, e1, e2, e3, e4⟩ := key
      rw [e1]
      refine ⟨_, b, rfl, e2, ?_, ?_⟩
      · obtain ⟨b1, b2⟩ := b
        dsimp only at e3 e4
        subst e3 e4
        exact sx_ok u00
      · rw [e4]; exact hRR
  unfold q11_couples q12_couples
  dsimp only [lt]
  by_cases hp1 : p = -1
  · obtain ⟨r1, r2, e1, e2, e3, e4⟩ := main p (Or.inl hp1)
    refine ⟨r1, r2, ?_, ?_, e3, e4⟩
    · rw [if_neg (not_not_intro hp1)]
      exact e1
    · rw [if_neg (not_not_intro hp1)]
      simp only [Option.bind_some, Bool.false_eq_true, if_false, up_at, if_neg lt0]
      exact e2
  · rcases one_cases hN p with ⟨h1, h2⟩ | ⟨i, hi, rfl, h1, h2⟩
    · rw [if_pos hp1, if_pos hp1, h1, h2]
      exact ⟨(.inl 2, σ), (0, up μ 0 0 1), rfl, by simp only [Bool.false_eq_true, if_false, if_true, up_at, if_pos lt01, Option.bind_some], sx_thr (i := 0) (by decide) (by decide) rfl, hR.t0⟩
    · obtain ⟨r1, r2, e1, e2, e3, e4⟩ := main (nI i) (Or.inr ⟨i, hi, rfl⟩)
      refine ⟨r1, r2, ?_, ?_, e3, e4⟩
      · rw [if_pos hp1, h1]
        exact e1
      · rw [if_pos hp1, h2]
        simp only [Option.bind_some, Bool.false_eq_true, if_false, if_true, up_at, if_neg lt0]
        exact e2

/-! LAYER 2: SWINGS, KINGMAKER, BLOC -/
def swB (m : Nat → Int32) (n b : Nat) (p k : Nat) : Bool := q11_isIn (nI k) (nI p) && hsN b n k && car m n (nI k) && !car m n (q11_without (nI k) (nI p))
def swc (m : Nat → Int32) (n b p : Nat) : Nat → Nat := sm (fun k => if swB m n b p k = true then 1 else 0)
theorem swc_s {m : Nat → Int32} {n b p k : Nat} : swc m n b p (k + 1) = swc m n b p k + (if swB m n b p k = true then 1 else 0) := rfl
theorem swc_end {m : Nat → Int32} {n b p : Nat} (hn : n < 7) (hb : b < 2 ^ n) : ∀ j, 2 ^ n + j ≤ 64 → swc m n b p (2 ^ n + j) = swc m n b p (2 ^ n)
  | 0, _ => rfl
  | j + 1, h => by
    rw [← Nat.add_assoc, swc_s]
    unfold swB
    rw [hs_out n hn b hb _ (by omega) (by omega), Bool.and_false, Bool.false_and, Bool.false_and, if_neg (by decide)]
    exact swc_end hn hb j (by omega)
theorem swc_le {m : Nat → Int32} {n b p : Nat} (k : Nat) : swc m n b p k ≤ 1 * k := sm_le (fun j => by split <;> omega) k
theorem swung_ok {σ μ : St} {n : Nat} (p : Nat) (hV : RVd (vd σ 44) (μ 1) n) : q11_swungBy σ (nI p) = some (nI (swc (μ 1) n (bs (fB (μ 1)) n) p (2 ^ n))) := by
  have hn := hV.1.1
  have hb := bs_lt (fB (μ 1)) n
  have hp := pow_le6 hn
  have hC : Wo (q11_swungBy σ (nI p)) (fun r => r = nI (swc (μ 1) n (bs (fB (μ 1)) n) p 64)) := by
    unfold q11_swungBy
    dsimp only [lt]
    refine wo_bind ?_
    refine lpW2 64 (fun k a q => q = nI k ∧ a = nI (swc (μ 1) n (bs (fB (μ 1)) n) p k)) ?_ fuelN 0 0 0 (Nat.zero_le _) (fuel_ok (by omega)) ⟨rfl, rfl⟩
    rintro rec k a q hk ⟨rfl, rfl⟩ IH
    refine wo_ite (fun hlt => ?_) (fun hge => ?_)
    · have hkn : k < 64 := (nI_ltI (b := 64) (by omega) (by omega)).mp hlt
      rw [house_ok hV, most_ok _ hV, most_ok _ hV]
      simp only [Option.bind_some, decide_eq_true_eq]
      have hs := swc_s (m := μ 1) (n := n) (b := bs (fB (μ 1)) n) (p := p) (k := k)
      unfold swB at hs
      cases c1 : q11_isIn (nI k) (nI p) <;> cases c2 : hsN (bs (fB (μ 1)) n) n k <;> cases c3 : car (μ 1) n (nI k) <;> cases c4 : car (μ 1) n (q11_without (nI k) (nI p)) <;> rw [c1, c2, c3, c4] at hs <;> simp only [Bool.false_and, Bool.and_false, Bool.true_and, Bool.and_true, Bool.not_true, Bool.not_false, Bool.false_eq_true, if_false, if_true, Nat.add_zero, and_false, false_and, and_true, true_and, and_self, Option.bind_some] at hs ⊢ <;> (first | rw [nI_1, nI_1] | rw [nI_1]) <;> exact IH _ _ hkn ⟨rfl, by rw [hs]⟩
    · have : k = 64 := by
        have : ¬ k < 64 := fun q => hge (nI_lt (b := 64) q (by omega))
        omega
      subst this
      exact wo_some (wo_some rfl)
  obtain ⟨r, e, rfl⟩ := hC
  rw [e, ← swc_end (by omega) hb (64 - 2 ^ n) (by omega), show 2 ^ n + (64 - 2 ^ n) = 64 from by omega]
theorem swings_ok {ν : St} {n : Nat} (p : Nat) (h3 : ν 1 3 = nI n) (hn : n ≤ 6) (hW : WFm (ν 1) n) : q12_swingsOf ν (nI p) = some (nI (swc (ν 1) n (bs (fB (ν 1)) n) p (2 ^ n))) := by
  have hb := bs_lt (fB (ν 1)) n
  have hp := pow_le6 hn
  have hpp : 0 < 2 ^ n := Nat.pow_pos (by omega)
  have hM : Wo (q12_swingsOf ν (nI p)) (fun r => r = nI (swc (ν 1) n (bs (fB (ν 1)) n) p (2 ^ n))) := by
    unfold q12_swingsOf
    dsimp only [lt]
    refine wo_st (those4 h3 hn hW) ?_
    refine wo_bind ?_
    refine lpW2 (2 ^ n) (fun k a q => q = nI k ∧ a = nI (swc (ν 1) n (bs (fB (ν 1)) n) p k)) ?_ fuelN 0 0 0 (Nat.zero_le _) (fuel_ok (by omega)) ⟨rfl, rfl⟩
    rintro rec k a q hk ⟨rfl, rfl⟩ IH
    refine wo_st (all_ok h3) ?_
    rw [all_nI n (by omega)]
    by_cases hkn : k < 2 ^ n
    · rw [if_pos (nI_le (by omega) (by omega)), carry_ok _ h3 hn hW, carry_ok _ h3 hn hW, isOf_isIn]
      have hh : (nI k &&& nI (bs (fB (ν 1)) n) = 0) ↔ hsN (bs (fB (ν 1)) n) n k = true := by
        rw [← hs_in n (by omega) _ hb k hkn, decide_eq_true_eq]
      have hs := swc_s (m := ν 1) (n := n) (b := bs (fB (ν 1)) n) (p := p) (k := k)
      unfold swB q11_without at hs
      have hhe : (if nI k &&& nI (bs (fB (ν 1)) n) = 0 then (if q11_isIn (nI k) (nI p) = true then (Option.bind (some (car (ν 1) n (nI k))) fun x28_ => if x28_ = true then (Option.bind (some (car (ν 1) n (nI k &&& (shl 1 (nI p) ^^^ -1)))) fun x31_ => if x31_ = true then some false else some true) else some false) else some false) else some false) = some (q11_isIn (nI k) (nI p) && hsN (bs (fB (ν 1)) n) n k && car (ν 1) n (nI k) && !car (ν 1) n (nI k &&& (shl 1 (nI p) ^^^ -1))) := by
        by_cases c2 : hsN (bs (fB (ν 1)) n) n k = true
        · rw [if_pos (hh.mpr c2), c2]
          cases q11_isIn (nI k) (nI p) <;> cases car (ν 1) n (nI k) <;> cases car (ν 1) n (nI k &&& (shl 1 (nI p) ^^^ -1)) <;> rfl
        · rw [if_neg (fun q => c2 (hh.mp q)), Bool.not_eq_true _ |>.mp c2, Bool.and_false, Bool.false_and, Bool.false_and]
      rw [hhe]
      simp only [Option.bind_some]
      generalize (q11_isIn (nI k) (nI p) && hsN (bs (fB (ν 1)) n) n k && car (ν 1) n (nI k) && !car (ν 1) n (nI k &&& (shl 1 (nI p) ^^^ -1))) = t at hs ⊢
      cases t with
      | true =>
        rw [if_pos rfl] at hs
        simp only [if_true, Option.bind_some]
        rw [nI_1, nI_1]
        exact IH _ _ hkn ⟨rfl, by rw [hs]⟩
      | false =>
        rw [if_neg (by decide)] at hs
        simp only [Bool.false_eq_true, if_false, Option.bind_some]
        rw [Int32.add_zero, nI_1]
        exact IH _ _ hkn ⟨rfl, by rw [hs]; rfl⟩
    · have : k = 2 ^ n := by omega
      subst this
      rw [if_neg (fun q => by
        have := (nI_leI (by omega) (by omega)).mp q
        omega)]
      exact wo_some (wo_some rfl)
  obtain ⟨r, e, rfl⟩ := hM
  exact e
theorem op_swings {LR : LRT} : Op_swings (RR LR) := by
  intro σ μ hR p
  obtain ⟨n, hN, hV, hW⟩ := hR.nn
  have hn := hN.1
  unfold q11_swings q12_swings
  dsimp only [lt]
  rcases one_cases hN p with ⟨h1, h2⟩ | ⟨i, hi, rfl, h1, h2⟩
  · rw [h1, h2]
    exact ⟨(.inl 2, σ), (0, up μ 0 0 1), rfl, by simp only [Bool.false_eq_true, not_false_eq_true, if_true, up_at, if_pos lt01, Option.bind_some], sx_thr (i := 0) (by decide) (by decide) rfl, hR.t0⟩
  · rw [h1, h2]
    simp only [thN, Option.bind_some, not_true_eq_false, if_false, up_at, if_neg lt0]
    have e2 := swings_ok (ν := up μ 0 0 0) i (by rw [up0_1]; exact hN.2.2) hn (by rw [up0_1]; exact hW)
    rw [up0_1] at e2
    rw [swung_ok i hV, e2]
    exact ⟨_, _, rfl, rfl, sx_ok up_at, hR.t0⟩
theorem op_kingmaker {LR : LRT} : Op_kingmaker (RR LR) := by
  intro σ μ hR
  obtain ⟨n, ⟨hn, h8, h3⟩, hV, hW⟩ := hR.nn
  have key : R2 (q11_kingmaker σ) (q12_kingmaker μ) (fun a b => a = b.1 ∧ b.2 = up μ 0 0 0) := by
    unfold q11_kingmaker q12_kingmaker
    dsimp only [lt]
    refine r2_bind ?_
    refine lpR33 n (fun k a m p b m' q => p = nI k ∧ q = nI k ∧ a = b ∧ m = m') ?_ fuelN fuelN 0 (-1) 0 0 (-1) 0 0 (Nat.zero_le _) (fuel_ok (by omega)) (fuel_ok (by omega)) ⟨rfl, rfl, rfl, rfl⟩
    rintro u v k a m p b m' q hk ⟨rfl, rfl, rfl, rfl⟩ IH
    refine r2_R ag3 ?_
    rw [h8, up0_1, h3]
    refine r2_ite Iff.rfl (fun hlt => ?_) (fun _ => r2_some (r2_some ⟨rfl, rfl⟩))
    have hkn : k < n := (nI_ltI (by omega) (by omega)).mp hlt
    have e2 := swings_ok (ν := up μ 0 0 0) k (by rw [up0_1]; exact h3) hn (by rw [up0_1]; exact hW)
    rw [up0_1] at e2
    rw [swung_ok k hV, e2]
    simp only [Option.bind_some]
    generalize nI (swc (μ 1) n (bs (fB (μ 1)) n) k (2 ^ n)) = x
    by_cases hc : m < x
    · rw [if_pos hc, if_neg (Int32.not_le.mpr hc), nI_1]
      exact IH _ _ _ _ _ _ hkn ⟨rfl, rfl, rfl, rfl⟩
    · rw [if_neg hc, if_pos (Int32.not_lt.mp hc), nI_1]
      exact IH _ _ _ _ _ _ hkn ⟨rfl, rfl, rfl, rfl⟩
  obtain ⟨a, b, e1, e2, e3, e4⟩ := key
  exact ⟨a, b, e1, e2, e3, by rw [e4]; exact hR.t0⟩
theorem op_bloc {LR : LRT} : Op_bloc (RR LR) := by
  intro σ μ hR x
  obtain ⟨n, ⟨hn, h8, h3⟩, hV, hW⟩ := hR.nn
  unfold q11_bloc q12_bloc q11_needParty
  dsimp only [lt]
  rcases rng_cases x (n := 3) (by omega) with ⟨q1, q2⟩ | ⟨c, hc, rfl, q1, q2⟩
  · have q2' : q12_isIn x 0 2 = false := q2
    have q1' : x < 0 ∨ 3 ≤ x := q1
    rw [if_pos q1', q2']
    exact ⟨(.inl 2, σ), (0, up μ 0 0 1), rfl, by simp only [Bool.false_eq_true, not_false_eq_true, if_true, up_at, if_pos lt01], sx_thr (i := 0) (by decide) (by decide) rfl, hR.t0⟩
  · have q2' : q12_isIn (nI c) 0 2 = true := q2
    have q1' : ¬ (nI c < 0 ∨ 3 ≤ nI c) := q1
    rw [if_neg q1', q2']
    simp only [not_true_eq_false, if_false, up_at, if_neg lt0, thN]
    have hM : Wo (loop2 (fun (rec15_ : Int32 → Int32 → Option (Int32 × Int32)) (set18_ : Int32) (p19_ : Int32) =>
        Option.bind (ag (up μ 0 0 0) 1 752 3) fun x24_ =>
        if p19_ < x24_ then
        Option.bind (Option.bind (q12_of (up μ 0 0 0) p19_ 1) fun x33_ =>
        if x33_ = nI c then (some (shl 1 p19_)) else (some (0 : Int32))) fun x28_ =>
        rec15_ (set18_ ||| x28_) (p19_ + 1)
        else (some (set18_, p19_))) fuelN (0 : Int32) (0 : Int32)) (fun r => r.1 = nI (bs (fun p => decide (μ 1 (14 + 7 * p + 1) = nI c)) n)) := by
      refine lpW2 n (fun k a p => p = nI k ∧ a = nI (bs (fun p => decide (μ 1 (14 + 7 * p + 1) = nI c)) k)) ?_ fuelN 0 0 0 (Nat.zero_le _) (fuel_ok (by omega)) ⟨rfl, rfl⟩
      rintro rec k a p hk ⟨rfl, rfl⟩ IH
      refine wo_st ag3 ?_
      rw [up0_1, h3]
      refine wo_ite (fun hlt => ?_) (fun hge => ?_)
      · have hkn : k < n := (nI_ltI (by omega) (by omega)).mp hlt
        rw [of1 (by omega), up0_1]
        simp only [Option.bind_some]
        have hb := bs_lt (fun p => decide (μ 1 (14 + 7 * p + 1) = nI c)) k
        have hb2 := bs_le (n := k) (by omega) (fun p => decide (μ 1 (14 + 7 * p + 1) = nI c))
        by_cases hcc : μ 1 (14 + 7 * k + 1) = nI c
        · rw [if_pos hcc]
          simp only [Option.bind_some]
          rw [or_bit k (by omega) _ hb2 hb, nI_1]
          refine IH _ _ hkn ⟨rfl, ?_⟩
          show _ = nI (bs _ k + _)
          simp only [decide_eq_true hcc, if_true]
        · rw [if_neg hcc]
          simp only [Option.bind_some]
          rw [or_zero, nI_1]
          refine IH _ _ hkn ⟨rfl, ?_⟩
          show _ = nI (bs _ k + _)
          simp only [decide_eq_false hcc, Bool.false_eq_true, if_false, Nat.add_zero]
      · have : k = n := by
          have : ¬ k < n := fun q => hge (nI_lt q (by omega))
          omega
        subst this
        exact wo_some rfl
    obtain ⟨⟨r, r'⟩, er, hr⟩ := hM
    dsimp only at hr
    subst hr
    have er' := er
    rw [er']
    simp only [Option.bind_some]
    have ec := counts_ok (ν := up μ 0 0 0) (nI (bs (fun p => decide (μ 1 (14 + 7 * p + 1) = nI c)) n)) (by rw [up0_1]; exact h3) hn (by rw [up0_1]; exact hW)
    rw [up0_1] at ec
    rw [ec]
    simp only [Option.bind_some]
    have hC : Wo (loop2 (fun (rec6_ : Int32 → Int32 → Option (Int32 × Int32)) (sum9_ : Int32) (p10_ : Int32) =>
        if p10_ < (σ 44 8) then
        Option.bind (Option.bind (ag σ (44 + 2) 6 p10_) fun x22_ =>
        if (x22_ = nI c) ∧ (¬ (q11_isIn (σ 44 10) p10_ = true)) then (Option.bind (q11_weightOf σ p10_) fun x27_ =>
        some (sum9_ + x27_)) else (some (sum9_))) fun y17_ =>
        rec6_ y17_ (p10_ + 1)
        else (some (sum9_, p10_))) fuelN (0 : Int32) (0 : Int32)) (fun r => r.1 = nI (sm (fA (μ 1) (nI (bs (fun p => decide (μ 1 (14 + 7 * p + 1) = nI c)) n))) n)) := by
      refine lpW2 n (fun k a p => p = nI k ∧ a = nI (sm (fA (μ 1) (nI (bs (fun p => decide (μ 1 (14 + 7 * p + 1) = nI c)) n))) k)) ?_ fuelN 0 0 0 (Nat.zero_le _) (fuel_ok (by omega)) ⟨rfl, rfl⟩
      rintro rec k a p hk ⟨rfl, rfl⟩ IH
      rw [h8]
      refine wo_ite (fun hlt => ?_) (fun hge => ?_)
      · have hkn : k < n := (nI_ltI (by omega) (by omega)).mp hlt
        rw [hV.h2 hkn, hV.hb hkn]
        simp only [Option.bind_some]
        have hwt : q11_weightOf σ (nI k) = some (nI (wtN (μ 1) k)) := by
          unfold q11_weightOf wtN
          rw [hV.h4 hkn]
          simp only [Option.bind_some]
          by_cases h0 : 0 < μ 1 (14 + 7 * k + 5)
          · rw [if_pos h0, if_pos h0]; rfl
          · rw [if_neg h0, if_neg h0]; rfl
        have hf : fA (μ 1) (nI (bs (fun p => decide (μ 1 (14 + 7 * p + 1) = nI c)) n)) k = if (decide (μ 1 (14 + 7 * k + 1) = nI c) && !fB (μ 1) k) = true then wtN (μ 1) k else 0 := by
          unfold fA
          rw [isIn_bs hn hkn]
        by_cases c1 : μ 1 (14 + 7 * k + 1) = nI c ∧ ¬ fB (μ 1) k = true
        · have c2 : (decide (μ 1 (14 + 7 * k + 1) = nI c) && !fB (μ 1) k) = true := by
            rw [decide_eq_true c1.1, Bool.not_eq_true _ |>.mp c1.2]
            rfl
          rw [if_pos c2] at hf
          rw [if_pos c1, hwt]
          simp only [Option.bind_some]
          rw [nI_add, nI_1]
          exact IH _ _ hkn ⟨rfl, by rw [sm_s, hf]⟩
        · have c2 : ¬ (decide (μ 1 (14 + 7 * k + 1) = nI c) && !fB (μ 1) k) = true := by
            intro q
            rw [Bool.and_eq_true, decide_eq_true_eq, Bool.not_eq_true'] at q
            exact c1 ⟨q.1, by rw [q.2]; decide⟩
          rw [if_neg c2] at hf
          rw [if_neg c1]
          simp only [Option.bind_some]
          rw [nI_1]
          exact IH _ _ hkn ⟨rfl, by rw [sm_s, hf]; rfl⟩
      · have : k = n := by
          have : ¬ k < n := fun q => hge (nI_lt q (by omega))
          omega
        subst this
        exact wo_some rfl
    obtain ⟨⟨s, s'⟩, es, hs⟩ := hC
    dsimp only at hs
    subst hs
    have es' := es
    rw [es']
    exact ⟨_, _, rfl, rfl, sx_ok up_at, hR.t0⟩

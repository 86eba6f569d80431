/-! LAYER 2: NEVER, LOVED, THE LOG, THE IMAGE -/
theorem all_not : ∀ n, n < 7 → ∀ a, a < 64 → a < 2 ^ n → (shl 1 (nI n) - 1) &&& (nI a ^^^ (-1)) = nI (2 ^ n - 1 - a) := by decide +kernel
theorem bs_not (f : Nat → Bool) : ∀ n, bs (fun p => !f p) n = 2 ^ n - 1 - bs f n
  | 0 => rfl
  | n + 1 => by
    have h := bs_lt f n
    have e : (2 : Nat) ^ (n + 1) = 2 ^ n + 2 ^ n := by rw [Nat.pow_succ]; omega
    unfold bs
    rw [bs_not f n]
    cases hf : f n with
    | true => simp only [Bool.not_true, Bool.false_eq_true, if_false, if_true]; omega
    | false => simp only [Bool.not_false, Bool.false_eq_true, if_false, if_true]; omega
theorem in_pos {x : Int32} {N : Nat} (h : inR x N) (hN : N < 2 ^ 31) : 0 < x ↔ ¬ x = 0 := by
  obtain ⟨a, h1, rfl⟩ := h
  by_cases ha : a = 0
  · subst ha
    exact ⟨fun q => absurd q lt0, fun q => absurd rfl q⟩
  · refine ⟨fun _ => nI_ne0 (by omega) (by omega), fun _ => ?_⟩
    exact nI_lt (a := 0) (by omega) (by omega)
theorem all_ok {μ : St} {n : Nat} (h3 : μ 1 3 = nI n) : q12_all μ = some (shl 1 (nI n) - 1) := by
  unfold q12_all
  rw [ag3, h3]
  rfl
theorem op_never {LR : LRT} : Op_never (RR LR) := by
  intro σ μ hR
  obtain ⟨n, ⟨hn, h8, h3⟩, hV, hW⟩ := hR.nn
  have h1 : Wo (q11_never σ) (fun r => r = nI (bs (fun p => !decide (0 < μ 1 (14 + 7 * p + 5))) n)) := by
    unfold q11_never
    dsimp only [lt]
    refine wo_bind ?_
    refine lpW2 n (fun k a p => p = nI k ∧ a = nI (bs (fun p => !decide (0 < μ 1 (14 + 7 * p + 5))) k)) ?_ fuelN 0 0 0 (Nat.zero_le _) (fuel_ok (by omega)) ⟨rfl, rfl⟩
    rintro rec k a p hk ⟨rfl, rfl⟩ IH
    rw [h8]
    refine wo_ite (fun hlt => ?_) (fun hge => ?_)
    · have hkn : k < n := (nI_ltI (by omega) (by omega)).mp hlt
      rw [hV.h4 hkn]
      simp only [Option.bind_some]
      have hb := bs_lt (fun p => !decide (0 < μ 1 (14 + 7 * p + 5))) k
      have hb2 := bs_le (n := k) (by omega) (fun p => !decide (0 < μ 1 (14 + 7 * p + 5)))
      have hin := in_pos (hW.1 k hkn).2.2.2.2.2.1 (by decide)
      by_cases hc : μ 1 (14 + 7 * k + 5) = 0
      · rw [if_pos hc]
        simp only [Option.bind_some]
        rw [or_bit k (by omega) _ hb2 hb, nI_1]
        refine IH _ _ hkn ⟨rfl, ?_⟩
        show _ = nI (bs _ k + _)
        simp only [decide_eq_false (fun q => (hin.mp q) hc), Bool.not_false, if_true]
      · rw [if_neg hc]
        simp only [Option.bind_some]
        rw [nI_1]
        refine IH _ _ hkn ⟨rfl, ?_⟩
        show _ = nI (bs _ k + _)
        simp only [decide_eq_true (hin.mpr hc), Bool.not_true, Bool.false_eq_true, if_false, Nat.add_zero]
    · have : k = n := by
        have : ¬ k < n := fun q => hge (nI_lt q (by omega))
        omega
      subst this
      exact wo_some (wo_some rfl)
  obtain ⟨r, e, rfl⟩ := h1
  refine ⟨_, (nI (bs (fun p => !decide (0 < μ 1 (14 + 7 * p + 5))) n), up μ 0 0 0), e, ?_, rfl, hR.t0⟩
  unfold q12_never
  dsimp only [lt]
  have ht := those_ok (μ := up μ 0 0 0) (n := n) (w := 5) (by rw [up0_1]; exact h3) hn (by omega)
  rw [up0_1] at ht
  rw [all_ok (μ := up μ 0 0 0) (n := n) (by rw [up0_1]; exact h3), show (5 : Int32) = nI 5 from rfl, ht]
  simp only [Option.bind_some]
  rw [all_not n (by omega) _ (bs_le hn _) (bs_lt _ _), bs_not]
/-- what all others think of one -/
theorem love_ok {σ μ ν : St} {v n i : Nat} (hV : RVd (vd σ v) (μ 1) n) (hW : WFm (μ 1) n) (h1 : ν 1 = μ 1) (hi : i < n) : ∃ s, s ≤ 60 ∧ q10_loveFor σ v (nI i) = some (nI s) ∧ q12_lovesOf ν (nI i) = some (nI s) := by
  have hn := hV.1.1
  have h8 : σ v 8 = nI n := hV.1.2.1
  have h3 : μ 1 3 = nI n := hV.1.2.2
  have key : R2 (q10_loveFor σ v (nI i)) (q12_lovesOf ν (nI i)) (fun a b => a = b ∧ ∃ s, s ≤ 60 ∧ a = nI s) := by
    unfold q10_loveFor q12_lovesOf
    dsimp only [lt]
    refine r2_bind ?_
    refine lpR22 n (fun k a p b q => p = nI k ∧ q = nI k ∧ a = b ∧ ∃ s, s ≤ 9 * k ∧ a = nI s) ?_ fuelN fuelN 0 0 0 0 0 (Nat.zero_le _) (fuel_ok (by omega)) (fuel_ok (by omega)) ⟨rfl, rfl, rfl, 0, by omega, rfl⟩
    rintro u w k a p b q hk ⟨rfl, rfl, rfl, s, hs, rfl⟩ IH
    refine r2_R ag3 ?_
    rw [h8, h1, h3]
    refine r2_ite Iff.rfl (fun hlt => ?_) (fun _ => r2_some (r2_some ⟨rfl, s, by omega, rfl⟩))
    have hkn : k < n := (nI_ltI (by omega) (by omega)).mp hlt
    by_cases hki : k = i
    · subst hki
      simp only [if_true, Option.bind_some]
      rw [Int32.add_zero, nI_1]
      exact IH _ _ _ _ hkn ⟨rfl, rfl, rfl, s, by omega, rfl⟩
    · have hne := nIe (p := k) (o := i) (by omega) (by omega) hki
      rw [if_neg hne, if_neg hne, likingOf_ne (by omega) (by omega) hki, liking_ne (by omega) (by omega) hki, h1]
      simp only [Option.bind_some]
      have e : σ (v + 6) (k * 6 + i) = μ 1 (63 + 7 * k + i) := hV.2.2.2.1 k i hkn hi hki
      obtain ⟨x, hx, ex⟩ := hW.2.1 k i hkn hi hki
      rw [e, ex, nI_add, nI_1]
      exact IH _ _ _ _ hkn ⟨rfl, rfl, rfl, s + x, by omega, rfl⟩
  obtain ⟨a, b, e1, e2, rfl, s, hs, rfl⟩ := key
  exact ⟨s, hs, e1, e2⟩
theorem op_loved {LR : LRT} : Op_loved (RR LR) := by
  intro σ μ hR
  obtain ⟨n, ⟨hn, h8, h3⟩, hV, hW⟩ := hR.nn
  have key : R2 (q11_loved σ) (q12_loved μ) (fun a b => a = b.1 ∧ b.2 = up μ 0 0 0) := by
    unfold q11_loved q12_loved
    dsimp only [lt]
    refine r2_bind ?_
    refine lpR32 n (fun k a m p b q => p = nI k ∧ q = nI k ∧ a = b ∧ ((a = -1 ∧ m = -1) ∨ ∃ j s, j < n ∧ a = nI j ∧ m = nI s ∧ s ≤ 60 ∧ q12_lovesOf (up μ 0 0 0) (nI j) = some (nI s))) ?_ fuelN fuelN 0 (-1) (-1) 0 (-1) 0 (Nat.zero_le _) (fuel_ok (by omega)) (fuel_ok (by omega)) ⟨rfl, rfl, rfl, Or.inl ⟨rfl, rfl⟩⟩
    rintro u v k a m p b q hk ⟨rfl, rfl, rfl, ha⟩ IH
    refine r2_R ag3 ?_
    rw [h8, up0_1, h3]
    refine r2_ite Iff.rfl (fun hlt => ?_) (fun _ => r2_some (r2_some ⟨rfl, rfl⟩))
    have hkn : k < n := (nI_ltI (by omega) (by omega)).mp hlt
    obtain ⟨s, hs, l1, l2⟩ := love_ok (ν := up μ 0 0 0) hV hW up0_1 hkn
    rw [l1, l2]
    simp only [Option.bind_some]
    rcases ha with ⟨rfl, rfl⟩ | ⟨j, t, hj, rfl, rfl, ht, l3⟩
    · have hm : (-1 : Int32) < nI s := by
        rw [Int32.lt_iff_toInt_lt, m1_toInt, nI_toInt (by omega)]
        omega
      simp only [if_true, Option.bind_some, if_pos hm]
      rw [nI_1]
      exact IH _ _ _ _ _ hkn ⟨rfl, rfl, rfl, Or.inr ⟨k, s, hkn, rfl, rfl, hs, l2⟩⟩
    · rw [l3, if_neg (nI_m1 (by omega))]
      simp only [Option.bind_some]
      by_cases hc : nI t < nI s
      · simp only [if_pos hc, if_true, Option.bind_some]
        rw [nI_1]
        exact IH _ _ _ _ _ hkn ⟨rfl, rfl, rfl, Or.inr ⟨k, s, hkn, rfl, rfl, hs, l2⟩⟩
      · simp only [if_neg hc, Bool.false_eq_true, if_false, Option.bind_some]
        rw [nI_1]
        exact IH _ _ _ _ _ hkn ⟨rfl, rfl, rfl, Or.inr ⟨j, t, hj, rfl, rfl, ht, l3⟩⟩
  obtain ⟨a, b, e1, e2, e3, e4⟩ := key
  exact ⟨a, b, e1, e2, e3, by rw [e4]; exact hR.t0⟩
theorem rng_cases (x : Int32) {n : Nat} (hn : n < 2 ^ 30) : ((x < 0 ∨ nI n ≤ x) ∧ q12_isIn x 0 (nI n - 1) = false) ∨ ∃ i, i < n ∧ x = nI i ∧ ¬ (x < 0 ∨ nI n ≤ x) ∧ q12_isIn x 0 (nI n - 1) = true := by
  unfold q12_isIn
  have hP := pred_toInt (n := n) (by omega)
  rcases pk_ix x (n := n) (by omega) with hp | hp | ⟨i, hi, rfl⟩
  · refine Or.inl ⟨Or.inl hp, ?_⟩
    rw [decide_eq_false]
    rintro ⟨h1, -⟩
    exact Int32.not_le.mpr hp h1
  · refine Or.inl ⟨Or.inr hp, ?_⟩
    rw [decide_eq_false]
    rintro ⟨-, h2⟩
    rw [Int32.le_iff_toInt_le] at h2 hp
    rw [hP] at h2
    rw [nI_toInt (by omega)] at hp
    omega
  · refine Or.inr ⟨i, hi, rfl, ?_, ?_⟩
    · rintro (h1 | h1)
      · exact nI_pos (by omega) h1
      · exact nI_ge hi (by omega) h1
    · rw [decide_eq_true]
      refine ⟨nI_pos' (by omega), ?_⟩
      rw [Int32.le_iff_toInt_le, hP, nI_toInt (by omega)]
      omega
theorem fmod60 : ∀ f, f < 60 → ∀ a, a < 60 → fmod ((nI f - 1) - nI a) 60 = nI ((f + 59 - a) % 60) := by decide +kernel
theorem logged_ok {μ : St} {a c : Nat} (h : a < 60) (hc : c < 4) : q12_logged μ (nI a) (nI c) = some (μ 1 (112 + 4 * a + c)) := by
  unfold q12_logged
  rw [ag_m (k := 112 + 4 * a + c) (by
    show nI 112 + nI 4 * nI a + nI c = _
    rw [pk_mul, nI_add, nI_add]) (by omega)]
  rfl
theorem read_ok {σ : St} {v L f a c : Nat} {m : Nat → Int32} (hL : L ≤ 60) (hf : f < 60) (l3 : σ v 1 = nI L) (l4 : σ v 2 = nI f) (l6 : ∀ a c, a < L → c < 4 → σ (v + 1) (4 * ((f + 59 - a) % 60) + c) = m (112 + 4 * a + c)) (ha : a < L) (hc : c < 4) : q3_read σ v (nI a) (nI c) = some (m (112 + 4 * a + c)) := by
  unfold q3_read
  rw [l3, if_neg ?_]
  · dsimp only [lt]
    rw [l4, fmod60 f hf a (by omega), ag_nI (k := 4 * ((f + 59 - a) % 60) + c) (by
      show nI _ * nI 4 + nI c = _
      rw [pk_mul, nI_add, Nat.mul_comm]) (by omega) (by decide), l6 a c ha hc]
    rfl
  · rintro (((h | h) | h) | h)
    · exact nI_pos (by omega) h
    · exact nI_ge ha (by omega) h
    · exact nI_pos (by omega) h
    · exact nI_ge (b := 4) hc (by omega) h
theorem op_log {LR : LRT} : Op_log (RR LR) := by
  intro σ μ hR a0 a1
  obtain ⟨n, ⟨hn, h8, h3⟩, hV, hW⟩ := hR.nn
  obtain ⟨L, f, hL, hf, l3, l4, l5, l6⟩ := hV.2.2.2.2.2.2.2
  have l3' : σ 52 1 = nI L := l3
  have l4' : σ 52 2 = nI f := l4
  have l6' : ∀ a c, a < L → c < 4 → σ (52 + 1) (4 * ((f + 59 - a) % 60) + c) = μ 1 (112 + 4 * a + c) := l6
  unfold q11_log q12_log
  dsimp only [lt]
  rcases rng_cases a1 (n := 4) (by omega) with ⟨q1, q2⟩ | ⟨c, hc, rfl, q1, q2⟩
  · have q2' : q12_isIn a1 0 3 = false := q2
    have q1' : a1 < 0 ∨ 4 ≤ a1 := q1
    rw [if_pos q1', q2']
    simp only [Bool.false_eq_true, not_false_eq_true, if_true, up_at, if_pos lt01]
    exact ⟨_, _, rfl, rfl, sx_thr (by decide) rfl rfl, hR.t0⟩
  · have q2' : q12_isIn (nI c) 0 3 = true := q2
    have q1' : ¬ (nI c < 0 ∨ 4 ≤ nI c) := q1
    rw [if_neg q1', q2']
    simp only [not_true_eq_false, if_false, up_at, if_neg lt0]
    rw [ag_m (j := 8) (k := 8) rfl (by omega), up0_1, l5]
    simp only [Option.bind_some]
    rcases rng_cases a0 (n := L) (by omega) with ⟨r1, r2⟩ | ⟨a, ha, rfl, r1, r2⟩
    · rw [r2]
      simp only [Bool.false_eq_true, if_false, Option.bind_some]
      refine ⟨(.inr (-1), σ), (-1, up μ 0 0 0), ?_, rfl, sx_ok up_at, hR.t0⟩
      unfold q3_read
      show Option.bind (if (((a0 < 0) ∨ ((σ 52 1) ≤ a0)) ∨ (nI c < 0)) ∨ (4 ≤ nI c) then _ else _) _ = _
      rw [l3', if_pos (Or.inl (Or.inl r1))]
      rfl
    · rw [r2]
      simp only [if_true]
      rw [logged_ok (by omega) hc, up0_1]
      simp only [Option.bind_some]
      refine ⟨(.inr (μ 1 (112 + 4 * a + c)), σ), (μ 1 (112 + 4 * a + c), up μ 0 0 0), ?_, rfl, sx_ok up_at, hR.t0⟩
      show Option.bind (q3_read σ 52 (nI a) (nI c)) _ = _
      rw [read_ok hL hf l3' l4' l6' ha hc]
      rfl
/-! led -/
def fwk (m : Nat → Int32) (p : Int32) (L : Nat) : Nat → Int32
  | 0 => -1
  | t + 1 => if m (112 + 4 * (L - 1 - t) + 2) = p then m (112 + 4 * (L - 1 - t) + 0) else fwk m p L t
def cnk (m : Nat → Int32) (p : Int32) (L : Nat) : Nat → Nat
  | 0 => 0
  | t + 1 => cnk m p L t + (if m (112 + 4 * (L - 1 - t) + 2) = p then 1 else 0)
theorem fwk_s {m : Nat → Int32} {p : Int32} {L t : Nat} : fwk m p L (t + 1) = if m (112 + 4 * (L - 1 - t) + 2) = p then m (112 + 4 * (L - 1 - t) + 0) else fwk m p L t := rfl
theorem cnk_s {m : Nat → Int32} {p : Int32} {L t : Nat} : cnk m p L (t + 1) = cnk m p L t + (if m (112 + 4 * (L - 1 - t) + 2) = p then 1 else 0) := rfl
theorem op_led {LR : LRT} : Op_led (RR LR) := by
  intro σ μ hR a0 a1
  obtain ⟨n, hN, hV, hW⟩ := hR.nn
  obtain ⟨L, f, hL, hf, l3, l4, l5, l6⟩ := hV.2.2.2.2.2.2.2
  have l3' : σ 52 1 = nI L := l3
  have l4' : σ 52 2 = nI f := l4
  have l6' : ∀ a c, a < L → c < 4 → σ (52 + 1) (4 * ((f + 59 - a) % 60) + c) = μ 1 (112 + 4 * a + c) := l6
  unfold q11_led q12_led
  dsimp only [lt]
  rcases one_cases hN a0 with ⟨e1, e2⟩ | ⟨i, hi, rfl, e1, e2⟩
  · rw [e1, e2]
    simp only [Option.bind_some, Bool.false_eq_true, not_false_eq_true, if_true, up_at, if_pos lt01]
    exact ⟨(.inl 2, σ), _, rfl, rfl, sx_thr (by decide) rfl rfl, hR.t0⟩
  · rw [e1, e2]
    simp only [Option.bind_some, not_true_eq_false, if_false, up_at, if_neg lt0]
    rw [ag_m (j := 8) (k := 8) rfl (by omega), up0_1, l5]
    simp only [Option.bind_some]
    have hM : Wo (loop3 (fun (rec : Int32 → Int32 → Int32 → Option (Int32 × Int32 × Int32)) (n26_ : Int32) (found27_ : Int32) (ago28_ : Int32) =>
        if 0 ≤ ago28_ then
        Option.bind (q12_logged (up μ 0 0 0) ago28_ 2) fun x37_ =>
        if ¬ x37_ = nI i then (rec n26_ found27_ (ago28_ + (-1))) else
        Option.bind (q12_logged (up μ 0 0 0) ago28_ 0) fun x43_ =>
        rec (n26_ + 1) x43_ (ago28_ + (-1))
        else (some (n26_, found27_, ago28_))) fuelN (0 : Int32) (-1 : Int32) (nI L - 1)) (fun r => r.1 = nI (cnk (μ 1) (nI i) L L) ∧ r.2.1 = fwk (μ 1) (nI i) L L) := by
      refine lpW3 L (fun t a b c => a = nI (cnk (μ 1) (nI i) L t) ∧ b = fwk (μ 1) (nI i) L t ∧ c = nI (L - t) - 1) ?_ fuelN 0 0 (-1) (nI L - 1) (Nat.zero_le _) (fuel_ok (by omega)) ⟨rfl, rfl, rfl⟩
      rintro rec t a b c ht ⟨rfl, rfl, rfl⟩ IH
      by_cases hlt : t < L
      · have e : nI (L - t) - 1 = nI (L - 1 - t) := by
          have := nI_pred (L - 1 - t)
          rw [show L - 1 - t + 1 = L - t from by omega] at this
          exact this
        have e' : nI (L - 1 - t) + -1 = nI (L - (t + 1)) - 1 := by
          rw [show L - (t + 1) = L - 1 - t from by omega, Int32.sub_eq_add_neg]
        rw [e, if_pos (nI_pos' (by omega)), show (2 : Int32) = nI 2 from rfl, logged_ok (by omega) (by omega), up0_1]
        simp only [Option.bind_some]
        by_cases hc : μ 1 (112 + 4 * (L - 1 - t) + 2) = nI i
        · rw [if_neg (not_not_intro hc), show (0 : Int32) = nI 0 from rfl, logged_ok (by omega) (by omega), up0_1]
          simp only [Option.bind_some]
          rw [e', nI_1]
          refine IH _ _ _ hlt ⟨?_, ?_, rfl⟩
          · show _ = nI (cnk _ _ _ t + _)
            rw [if_pos hc]
          · show _ = if _ then _ else _
            rw [if_pos hc]
        · rw [if_pos hc, e']
          refine IH _ _ _ hlt ⟨?_, ?_, rfl⟩
          · show _ = nI (cnk _ _ _ t + _)
            rw [if_neg hc]
            rfl
          · show _ = if _ then _ else _
            rw [if_neg hc]
      · have : t = L := by omega
        subst this
        rw [Nat.sub_self, if_neg (by decide)]
        exact wo_some ⟨rfl, rfl⟩
    obtain ⟨r, er, r1, r2⟩ := hM
    have er' := er
    rw [er']
    simp only [Option.bind_some]
    rw [r1, r2]
    cases a1 with
    | true =>
      have hC : Wo (q3_latestWeekOf σ 52 (nI i)) (fun x => x = fwk (μ 1) (nI i) L L) := by
        unfold q3_latestWeekOf
        dsimp only [lt]
        refine wo_bind ?_
        refine lpW1 L (fun k a => a = nI k ∧ fwk (μ 1) (nI i) L (L - k) = fwk (μ 1) (nI i) L L) ?_ fuelN 0 0 (Nat.zero_le _) (fuel_ok (by omega)) ⟨rfl, rfl⟩
        rintro rec k a hk ⟨rfl, hkk⟩ IH
        rw [l3']
        refine wo_ite (fun hlt => ?_) (fun hge => ?_)
        · have hkn : k < L := (nI_ltI (by omega) (by omega)).mp hlt
          rw [show (2 : Int32) = nI 2 from rfl, read_ok hL hf l3' l4' l6' hkn (by omega)]
          simp only [Option.bind_some]
          have e : L - k = (L - k - 1) + 1 := by omega
          have e2 : L - 1 - (L - k - 1) = k := by omega
          rw [e, fwk_s, e2] at hkk
          by_cases hc : μ 1 (112 + 4 * k + 2) = nI i
          · rw [if_pos hc] at hkk
            rw [if_pos hc, show (0 : Int32) = nI 0 from rfl, read_ok hL hf l3' l4' l6' hkn (by omega)]
            exact wo_some (wo_some hkk)
          · rw [if_neg hc] at hkk
            rw [if_neg hc, nI_1]
            exact IH _ hkn ⟨rfl, by rw [show L - (k + 1) = L - k - 1 from by omega]; exact hkk⟩
        · have : k = L := by
            have : ¬ k < L := fun q => hge (nI_lt q (by omega))
            omega
          subst this
          rw [Nat.sub_self] at hkk
          exact wo_some (wo_some hkk)
      obtain ⟨x, ex, rfl⟩ := hC
      refine ⟨(.inr (fwk (μ 1) (nI i) L L), σ), (fwk (μ 1) (nI i) L L, up μ 0 0 0), ?_, ?_, sx_ok up_at, hR.t0⟩
      · show Option.bind (if true = true then Option.bind (q3_latestWeekOf σ 52 (nI i)) _ else _) _ = _
        rw [if_pos rfl, ex]
        rfl
      · simp only [if_true]
    | false =>
      have hC : Wo (q3_rowsOf σ 52 (nI i)) (fun x => x = nI (cnk (μ 1) (nI i) L L)) := by
        unfold q3_rowsOf
        dsimp only [lt]
        refine wo_bind ?_
        refine lpW2 L (fun k r a => a = nI k ∧ ∃ x, r = nI x ∧ x + cnk (μ 1) (nI i) L (L - k) = cnk (μ 1) (nI i) L L) ?_ fuelN 0 0 0 (Nat.zero_le _) (fuel_ok (by omega)) ⟨rfl, 0, rfl, Nat.zero_add _⟩
        rintro rec k r a hk ⟨rfl, x, rfl, hkk⟩ IH
        rw [l3']
        refine wo_ite (fun hlt => ?_) (fun hge => ?_)
        · have hkn : k < L := (nI_ltI (by omega) (by omega)).mp hlt
          rw [show (2 : Int32) = nI 2 from rfl, read_ok hL hf l3' l4' l6' hkn (by omega)]
          simp only [Option.bind_some]
          have e : L - k = (L - k - 1) + 1 := by omega
          have e2 : L - 1 - (L - k - 1) = k := by omega
          rw [e, cnk_s, e2] at hkk
          by_cases hc : μ 1 (112 + 4 * k + 2) = nI i
          · rw [if_pos hc] at hkk
            rw [if_pos hc]
            simp only [Option.bind_some]
            rw [nI_1, nI_1]
            exact IH _ _ hkn ⟨rfl, x + 1, rfl, by rw [show L - (k + 1) = L - k - 1 from by omega]; omega⟩
          · rw [if_neg hc] at hkk
            rw [if_neg hc]
            simp only [Option.bind_some]
            rw [nI_1]
            exact IH _ _ hkn ⟨rfl, x, rfl, by rw [show L - (k + 1) = L - k - 1 from by omega]; omega⟩
        · have : k = L := by
            have : ¬ k < L := fun q => hge (nI_lt q (by omega))
            omega
          subst this
          rw [Nat.sub_self] at hkk
          refine wo_some (wo_some ?_)
          rw [← hkk]
          rfl
      obtain ⟨x, ex, rfl⟩ := hC
      refine ⟨(.inr (nI (cnk (μ 1) (nI i) L L)), σ), (nI (cnk (μ 1) (nI i) L L), up μ 0 0 0), ?_, ?_, sx_ok up_at, hR.t0⟩
      · show Option.bind (if false = true then _ else Option.bind (q3_rowsOf σ 52 (nI i)) _) _ = _
        rw [if_neg (by decide), ex]
        rfl
      · simp only [Bool.false_eq_true, if_false]
/-! image and back -/
theorem op_image {LR : LRT} (ok : LRok LR) : Op_image (RR LR) := by
  intro σ μ hR
  obtain ⟨hV, hT, hF, hA, hI, hL⟩ := id hR
  unfold q11_image q12_image
  obtain ⟨ρ, eρ, v1, v2⟩ := bec_ok (σ := σ) (t := 64) (s := 44) (by omega)
  obtain ⟨τ, eτ, c1, c2, c3, c4⟩ := becl_ok (σ := ρ) (t := 40) (s := 32) (by omega)
  rw [eρ]
  simp only [Option.bind_some]
  rw [eτ]
  simp only [Option.bind_some]
  dsimp only [lt]
  rw [cp_loop2 (σ := up μ 0 0 0) (a := 1) (b := 2) (na := 752) (nb := 752) (KI := 752) (K := 752) (oa := 0) (ob := 0) (iR := fun k _ => k) (iW := fun k _ => k) rfl (by omega) (fun k s _ _ => by rw [Nat.zero_add]) (fun k s _ _ => by rw [Nat.zero_add]) (by omega) (by omega) (by decide) (by decide) (Or.inl (by decide))]
  simp only [Option.bind_some]
  refine ⟨_, _, rfl, rfl, ?_⟩
  have s0 : ∀ i, i ≠ 40 → i ≠ 41 → i < 64 ∨ 74 ≤ i → i ≠ 0 → up τ 0 14 (b2i true) i = σ i := fun i h1 h2 h3 h4 => by rw [up_pl h4, c4 i h1 h2, v2 i (by omega)]
  have s00 : ∀ k, k ≠ 14 → up τ 0 14 (b2i true) 0 k = σ 0 k := fun k hk => by rw [up_off hk, c4 0 (by decide) (by decide), v2 0 (by omega)]
  have m0 : ∀ i, i ≠ 2 → i ≠ 0 → up (cpy (up μ 0 0 0) 1 2 0 0 752) 0 3 (b2i true) i = μ i := fun i h2 h0 => by rw [up_pl h0, cpy_pl h2, up_pl h0]
  have m00 : ∀ k, k ≠ 0 → k ≠ 3 → up (cpy (up μ 0 0 0) 1 2 0 0 752) 0 3 (b2i true) 0 k = μ 0 k := fun k h0 h3 => by rw [up_off h3, cpy_pl (by decide), up_off h0]
  have m2 : ∀ k, k < 752 → up (cpy (up μ 0 0 0) 1 2 0 0 752) 0 3 (b2i true) 2 k = μ 1 k := fun k hk => by rw [up_pl (by decide), cpy_in (Nat.zero_le _) (by omega), up0_1, Nat.sub_zero, Nat.zero_add]
  refine ⟨?_, ?_, ?_, ?_, ⟨hI.1.eq (m00 15 (by decide) (by decide)) (m00 16 (by decide) (by decide)) (m00 18 (by decide) (by decide)), Or.inr ⟨up_at, up_at, ?_, ?_⟩⟩, ?_⟩
  · rw [m0 1 (by decide) (by decide)]
    refine hV.to ⟨?_, ?_, ?_, ?_, ?_, ?_, ?_⟩ <;> intros <;> (try show up τ 0 14 (b2i true) _ _ = σ _ _) <;> rw [s0 _ (by omega) (by omega) (by omega) (by omega)]
  · unfold RTe at hT ⊢
    rw [s0 1 (by decide) (by decide) (by omega) (by decide), s0 2 (by decide) (by decide) (by omega) (by decide), m00 8 (by decide) (by decide), m0 5 (by decide) (by decide)]
    exact hT
  · rw [s00 15 (by decide), m00 12 (by decide) (by decide)]; exact hF
  · unfold RAe at hA ⊢
    rw [s0 5 (by decide) (by decide) (by omega) (by decide), m00 6 (by decide) (by decide), m0 4 (by decide) (by decide), m0 1 (by decide) (by decide)]
    obtain ⟨A, f, a1, a2, a3, a4, a5, a6⟩ := hA
    refine ⟨A, f, a1, a2, a3, a4, a5, fun a ha => ⟨(a6 a ha).1.to ?_, (a6 a ha).2⟩⟩
    generalize (f + 12 - A + a) % 12 = j
    refine ⟨?_, ?_, ?_, ?_, ?_, ?_, ?_⟩ <;> intros <;> (try show up τ 0 14 (b2i true) _ _ = σ _ _) <;> rw [s0 _ (by omega) (by omega) (by omega) (by omega)]
  · refine RVW.row (m := μ 1) ?_ (fun k hk _ _ => m2 k (by omega))
    refine (hV.to v1).to ?_
    refine ⟨?_, ?_, ?_, ?_, ?_, ?_, ?_⟩ <;> intros <;> (try show up τ 0 14 (b2i true) _ _ = ρ _ _) <;> rw [up_pl (by omega), c4 _ (by omega) (by omega)]
  · have e1 : up τ 0 14 (b2i true) 40 3 = σ 32 3 := by rw [up_pl (by decide), c2, v2 32 (by omega)]
    have e2 : up τ 0 14 (b2i true) 40 4 = σ 32 4 := by rw [up_pl (by decide), c3, v2 32 (by omega)]
    rw [e1, e2, m2 1 (by decide), m2 2 (by decide)]
    refine ok hL (fun k hk => ?_) (fun k hk => m2 (352 + k) (by omega))
    rw [up_pl (by decide)]
    show τ (40 + 1) k = _
    rw [c1 k hk, v2 33 (by omega)]
  · rw [s0 32 (by decide) (by decide) (by omega) (by decide), s0 33 (by decide) (by decide) (by omega) (by decide), m0 1 (by decide) (by decide)]
    exact hL
theorem op_back {LR : LRT} (ok : LRok LR) : Op_back (RR LR) := by
  intro σ μ hR
  obtain ⟨hV, hT, hF, ⟨A, f, a1, a2, a3, a4, a5, a6⟩, hI, hL⟩ := id hR
  unfold q11_back q12_back q4_forget
  dsimp only [lt]
  have e03 : up μ 0 0 0 0 3 = μ 0 3 := up_off (by decide)
  rw [e03]
  obtain ⟨hfl, hI⟩ := hI
  rcases hI with ⟨i1, i2⟩ | ⟨i1, i2, i3, i4⟩
  · rw [i1, i2]
    exact ⟨(false, σ), (false, up μ 0 0 0), rfl, rfl, rfl, hR.t0⟩
  · rw [i1, i2]
    simp only [one_ne_zero32, not_false_eq_true, not_true_eq_false, if_false]
    obtain ⟨ρ, eρ, v1, v2⟩ := bec_ok (σ := σ) (t := 44) (s := 64) (by omega)
    obtain ⟨τ, eτ, c1, c2, c3, c4⟩ := becl_ok (σ := ρ) (t := 32) (s := 40) (by omega)
    rw [eρ]
    simp only [Option.bind_some]
    rw [eτ]
    simp only [Option.bind_some]
    rw [cp_loop2 (σ := up μ 0 0 0) (a := 2) (b := 1) (na := 752) (nb := 752) (KI := 752) (K := 752) (oa := 0) (ob := 0) (iR := fun k _ => k) (iW := fun k _ => k) rfl (by omega) (fun k s _ _ => by rw [Nat.zero_add]) (fun k s _ _ => by rw [Nat.zero_add]) (by omega) (by omega) (by decide) (by decide) (Or.inl (by decide))]
    simp only [Option.bind_some]
    refine ⟨_, _, rfl, rfl, rfl, ?_⟩
    show RR LR (up τ 5 1 0) (up (cpy (up μ 0 0 0) 2 1 0 0 752) 0 6 0)
    have s0 : ∀ i, i ≠ 32 → i ≠ 33 → i < 44 ∨ 54 ≤ i → i ≠ 5 → up τ 5 1 0 i = σ i := fun i h1 h2 h3 h4 => by rw [up_pl h4, c4 i h1 h2, v2 i (by omega)]
    have m0 : ∀ i, i ≠ 1 → i ≠ 0 → up (cpy (up μ 0 0 0) 2 1 0 0 752) 0 6 0 i = μ i := fun i h2 h0 => by rw [up_pl h0, cpy_pl h2, up_pl h0]
    have m00 : ∀ k, k ≠ 0 → k ≠ 6 → up (cpy (up μ 0 0 0) 2 1 0 0 752) 0 6 0 0 k = μ 0 k := fun k h0 h3 => by rw [up_off h3, cpy_pl (by decide), up_off h0]
    have m1 : ∀ k, k < 752 → up (cpy (up μ 0 0 0) 2 1 0 0 752) 0 6 0 1 k = μ 2 k := fun k hk => by rw [up_pl (by decide), cpy_in (Nat.zero_le _) (by omega), up_pl (by decide), Nat.sub_zero, Nat.zero_add]
    refine ⟨?_, ?_, ?_, ?_, ⟨hfl.eq (m00 15 (by decide) (by decide)) (m00 16 (by decide) (by decide)) (m00 18 (by decide) (by decide)), Or.inr ⟨?_, ?_, ?_, ?_⟩⟩, ?_⟩
    · refine RVW.row (m := μ 2) ?_ (fun k hk _ _ => m1 k (by omega))
      refine (i3.to v1).to ?_
      refine ⟨?_, ?_, ?_, ?_, ?_, ?_, ?_⟩ <;> intros <;> (try show up τ 5 1 0 _ _ = ρ _ _) <;> rw [up_pl (by omega), c4 _ (by omega) (by omega)]
    · unfold RTe at hT ⊢
      rw [s0 1 (by decide) (by decide) (by omega) (by decide), s0 2 (by decide) (by decide) (by omega) (by decide), m00 8 (by decide) (by decide), m0 5 (by decide) (by decide)]
      exact hT
    · rw [s0 0 (by decide) (by decide) (by omega) (by decide), m00 12 (by decide) (by decide)]; exact hF
    · refine ⟨0, f, by omega, a2, up_at, ?_, up_at, fun a ha => absurd ha (Nat.not_lt_zero _)⟩
      rw [up_off (by decide), c4 5 (by decide) (by decide), v2 5 (by omega)]
      exact a4
    · rw [s0 0 (by decide) (by decide) (by omega) (by decide)]; exact i1
    · rw [m00 3 (by decide) (by decide)]; exact i2
    · rw [m0 2 (by decide) (by decide)]
      refine i3.to ⟨?_, ?_, ?_, ?_, ?_, ?_, ?_⟩ <;> intros <;> (try show up τ 5 1 0 _ _ = σ _ _) <;> rw [s0 _ (by omega) (by omega) (by omega) (by omega)]
    · rw [s0 40 (by decide) (by decide) (by omega) (by decide), s0 41 (by decide) (by decide) (by omega) (by decide), m0 2 (by decide) (by decide)]
      exact i4
    · have e1 : up τ 5 1 0 32 3 = σ 40 3 := by rw [up_pl (by decide), c2, v2 40 (by omega)]
      have e2 : up τ 5 1 0 32 4 = σ 40 4 := by rw [up_pl (by decide), c3, v2 40 (by omega)]
      rw [e1, e2, m1 1 (by decide), m1 2 (by decide)]
      refine ok i4 (fun k hk => ?_) (fun k hk => m1 (352 + k) (by omega))
      rw [up_pl (by decide)]
      show τ (32 + 1) k = _
      rw [c1 k hk, v2 41 (by omega)]

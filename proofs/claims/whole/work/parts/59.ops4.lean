/-! LAYER 2: SETS, SUMS, THE LOG -/
theorem those_ok {μ : St} {n w : Nat} (h3 : μ 1 3 = nI n) (hn : n ≤ 6) (hw : w < 7) : q12_those μ (nI w) = some (nI (bs (fun p => decide (0 < μ 1 (14 + 7 * p + w))) n)) := by
  have h : Wo (q12_those μ (nI w)) (fun r => r = nI (bs (fun p => decide (0 < μ 1 (14 + 7 * p + w))) n)) := by
    unfold q12_those
    dsimp only [lt]
    refine wo_bind ?_
    refine lpW2 n (fun k a p => p = nI k ∧ a = nI (bs (fun p => decide (0 < μ 1 (14 + 7 * p + w))) k)) ?_ fuelN 0 0 0 (Nat.zero_le _) (fuel_ok (by omega)) ⟨rfl, rfl⟩
    rintro rec k a p hk ⟨rfl, rfl⟩ IH
    refine wo_st ag3 ?_
    rw [h3]
    refine wo_ite (fun hlt => ?_) (fun hge => ?_)
    · have hkn : k < n := (nI_ltI (by omega) (by omega)).mp hlt
      rw [of_nI (by omega) hw]
      simp only [Option.bind_some]
      have hb := bs_lt (fun p => decide (0 < μ 1 (14 + 7 * p + w))) k
      have hb2 := bs_le (n := k) (by omega) (fun p => decide (0 < μ 1 (14 + 7 * p + w)))
      by_cases hc : 0 < μ 1 (14 + 7 * k + w)
      · rw [if_pos hc]
        simp only [Option.bind_some]
        rw [or_bit k (by omega) _ hb2 hb, nI_1]
        refine IH _ _ hkn ⟨rfl, ?_⟩
        show _ = nI (bs _ k + _)
        simp only [decide_eq_true hc, if_true]
      · rw [if_neg hc]
        simp only [Option.bind_some]
        rw [or_zero, nI_1]
        refine IH _ _ hkn ⟨rfl, ?_⟩
        show _ = nI (bs _ k + _)
        simp only [decide_eq_false hc, Bool.false_eq_true, if_false, Nat.add_zero]
    · have : k = n := by
        have : ¬ k < n := fun q => hge (nI_lt q (by omega))
        omega
      subst this
      exact wo_some (wo_some rfl)
  obtain ⟨r, e, rfl⟩ := h
  exact e
theorem in1_pos {x : Int32} (h : inR x 1) : decide (0 < x) = decide (x = 1) := by
  obtain ⟨a, h1, rfl⟩ := h
  rcases (show a = 0 ∨ a = 1 by omega) with rfl | rfl <;> decide
theorem those3 {μ : St} {n : Nat} (h3 : μ 1 3 = nI n) (hn : n ≤ 6) (hW : WFm (μ 1) n) : q12_those μ 3 = some (nI (bs (fS (μ 1)) n)) := by
  have h := those_ok (w := 3) h3 hn (by omega)
  rw [bs_congr (g := fS (μ 1)) (fun p hp => in1_pos (hW.1 p hp).2.2.2.1)] at h
  exact h
theorem those4 {μ : St} {n : Nat} (h3 : μ 1 3 = nI n) (hn : n ≤ 6) (hW : WFm (μ 1) n) : q12_those μ 4 = some (nI (bs (fB (μ 1)) n)) := by
  have h := those_ok (w := 4) h3 hn (by omega)
  rw [bs_congr (g := fB (μ 1)) (fun p hp => in1_pos (hW.1 p hp).2.2.2.2.1)] at h
  exact h
theorem op_bench {LR : LRT} : Op_bench (RR LR) := by
  intro σ μ hR
  obtain ⟨n, ⟨hn, h8, h3⟩, hV, hW⟩ := hR.nn
  refine ⟨(nI (bs (fB (μ 1)) n), up μ 0 0 0), ?_, hV.2.2.1.2, hR.t0⟩
  unfold q12_bench
  dsimp only [lt]
  rw [those4 (μ := up μ 0 0 0) (by rw [up0_1]; exact h3) hn (by rw [up0_1]; exact hW), up0_1]
  rfl
theorem op_crowd {LR : LRT} : Op_crowd (RR LR) := by
  intro σ μ hR
  obtain ⟨n, ⟨hn, h8, h3⟩, hV, hW⟩ := hR.nn
  refine ⟨(nI (bs (fS (μ 1)) n), up μ 0 0 0), ?_, hV.2.2.1.1, hR.t0⟩
  unfold q12_crowd
  dsimp only [lt]
  rw [those3 (μ := up μ 0 0 0) (by rw [up0_1]; exact h3) hn (by rw [up0_1]; exact hW), up0_1]
  rfl
theorem op_thick {LR : LRT} : Op_thick (RR LR) := by
  intro σ μ hR
  obtain ⟨n, ⟨hn, h8, h3⟩, hV, hW⟩ := hR.nn
  have key : R2 (q11_thick σ) (q12_thick μ) (fun a b => a = b.1 ∧ b.2 = up μ 0 0 0) := by
    unfold q11_thick q12_thick
    dsimp only [lt]
    refine r2_bind ?_
    refine lpR22 n (fun k a p b q => p = nI k ∧ q = nI k ∧ a = b) ?_ fuelN fuelN 0 0 0 0 0 (Nat.zero_le _) (fuel_ok (by omega)) (fuel_ok (by omega)) ⟨rfl, rfl, rfl⟩
    rintro u v k a p b q hk ⟨rfl, rfl, rfl⟩ IH
    refine r2_R ag3 ?_
    rw [h8, up0_1, h3]
    refine r2_ite Iff.rfl (fun hlt => ?_) (fun _ => r2_some (r2_some ⟨rfl, rfl⟩))
    have hkn : k < n := (nI_ltI (by omega) (by omega)).mp hlt
    rw [hV.h5 hkn, hV.h3 hkn, of6 (by omega), of2 (by omega), up0_1]
    simp only [Option.bind_some]
    by_cases h2 : 2 ≤ μ 1 (14 + 7 * k + 6)
    · simp only [if_pos h2]
      by_cases h0 : μ 1 (14 + 7 * k + 2) = 0
      · simp only [if_pos h0, Option.bind_some, if_true]
        rw [nI_1]
        exact IH _ _ _ _ hkn ⟨rfl, rfl, rfl⟩
      · simp only [if_neg h0, Option.bind_some, Bool.false_eq_true, if_false]
        rw [nI_1, or_zero]
        exact IH _ _ _ _ hkn ⟨rfl, rfl, rfl⟩
    · simp only [if_neg h2, Option.bind_some, Bool.false_eq_true, if_false]
      rw [nI_1, or_zero]
      exact IH _ _ _ _ hkn ⟨rfl, rfl, rfl⟩
  obtain ⟨a, b, e1, e2, e3, e4⟩ := key
  exact ⟨a, b, e1, e2, e3, by rw [e4]; exact hR.t0⟩
theorem op_alike {LR : LRT} : Op_alike (RR LR) := by
  intro σ μ hR
  obtain ⟨n, ⟨hn, h8, h3⟩, hV, hW⟩ := hR.nn
  have key : R2 (q11_alike σ) (q12_alike μ) (fun a b => a = b.1 ∧ b.2 = up μ 0 0 0) := by
    unfold q11_alike q12_alike
    dsimp only [lt]
    refine r2_bind ?_
    refine lpR22 n (fun k a p b q => p = nI k ∧ q = nI k ∧ a = b) ?_ fuelN fuelN 0 0 0 0 0 (Nat.zero_le _) (fuel_ok (by omega)) (fuel_ok (by omega)) ⟨rfl, rfl, rfl⟩
    rintro u v k a p b q hk ⟨rfl, rfl, rfl⟩ IH
    refine r2_R ag3 ?_
    rw [h8, up0_1, h3]
    refine r2_ite Iff.rfl (fun hlt => ?_) (fun _ => r2_some (r2_some ⟨rfl, rfl⟩))
    have hkn : k < n := (nI_ltI (by omega) (by omega)).mp hlt
    refine r2_bind ?_
    rw [nI_1]
    refine lpR22 n (fun j a p b q => k + 1 ≤ j ∧ p = nI j ∧ q = nI j ∧ a = b) ?_ fuelN fuelN (k + 1) a (nI (k + 1)) a (nI (k + 1)) hkn (fuel_ok (by omega)) (fuel_ok (by omega)) ⟨Nat.le_refl _, rfl, rfl, rfl⟩
    rintro u2 v2 j a2 p2 b2 q2 hj ⟨hkj, rfl, rfl, rfl⟩ IH2
    refine r2_R ag3 ?_
    rw [up0_1, h3]
    refine r2_ite Iff.rfl (fun hlt2 => ?_) (fun _ => r2_some ?_)
    · have hjn : j < n := (nI_ltI (by omega) (by omega)).mp hlt2
      rw [hV.h2 hkn, hV.h2 hjn, hV.h3 hkn, hV.h3 hjn, of1 (by omega), of1 (by omega), of2 (by omega), of2 (by omega), up0_1]
      simp only [Option.bind_some]
      by_cases c1 : μ 1 (14 + 7 * k + 1) = μ 1 (14 + 7 * j + 1)
      · simp only [if_pos c1]
        by_cases c2 : μ 1 (14 + 7 * k + 2) = μ 1 (14 + 7 * j + 2)
        · simp only [if_pos c2, Option.bind_some, if_true]
          rw [nI_1]
          exact IH2 _ _ _ _ hjn ⟨by omega, rfl, rfl, rfl⟩
        · simp only [if_neg c2, Option.bind_some, Bool.false_eq_true, if_false]
          rw [nI_1, Int32.add_zero]
          exact IH2 _ _ _ _ hjn ⟨by omega, rfl, rfl, rfl⟩
      · simp only [if_neg c1, Option.bind_some, Bool.false_eq_true, if_false]
        rw [nI_1, Int32.add_zero]
        exact IH2 _ _ _ _ hjn ⟨by omega, rfl, rfl, rfl⟩
    · exact IH _ _ _ _ hkn ⟨rfl, rfl, rfl⟩
  obtain ⟨a, b, e1, e2, e3, e4⟩ := key
  exact ⟨a, b, e1, e2, e3, by rw [e4]; exact hR.t0⟩
/-- the sum of all hungers (0) or havings (5) -/
theorem hunAll {σ μ ν : St} {v n : Nat} (hV : RVd (vd σ v) (μ 1) n) (h1 : ν 1 = μ 1) : R2 (q10_hungerOfAll σ v) (q12_sumOf ν 0) (fun a b => a = b) := by
  have hn := hV.1.1
  have h8 : σ v 8 = nI n := hV.1.2.1
  have h3 : μ 1 3 = nI n := hV.1.2.2
  unfold q10_hungerOfAll q12_sumOf
  dsimp only [lt]
  refine r2_bind ?_
  refine lpR22 n (fun k a p b q => p = nI k ∧ q = nI k ∧ a = b) ?_ fuelN fuelN 0 0 0 0 0 (Nat.zero_le _) (fuel_ok (by omega)) (fuel_ok (by omega)) ⟨rfl, rfl, rfl⟩
  rintro u w k a p b q hk ⟨rfl, rfl, rfl⟩ IH
  refine r2_R ag3 ?_
  rw [h8, h1, h3]
  refine r2_ite Iff.rfl (fun hlt => ?_) (fun _ => r2_some (r2_some rfl))
  have hkn : k < n := (nI_ltI (by omega) (by omega)).mp hlt
  rw [hV.h1 hkn, of0 (by omega), h1]
  simp only [Option.bind_some]
  rw [nI_1]
  exact IH _ _ _ _ hkn ⟨rfl, rfl, rfl⟩
theorem hadAll {σ μ ν : St} {v n : Nat} (hV : RVd (vd σ v) (μ 1) n) (h1 : ν 1 = μ 1) : R2 (q10_hadOfAll σ v) (q12_sumOf ν 5) (fun a b => a = b) := by
  have hn := hV.1.1
  have h8 : σ v 8 = nI n := hV.1.2.1
  have h3 : μ 1 3 = nI n := hV.1.2.2
  unfold q10_hadOfAll q12_sumOf
  dsimp only [lt]
  refine r2_bind ?_
  refine lpR22 n (fun k a p b q => p = nI k ∧ q = nI k ∧ a = b) ?_ fuelN fuelN 0 0 0 0 0 (Nat.zero_le _) (fuel_ok (by omega)) (fuel_ok (by omega)) ⟨rfl, rfl, rfl⟩
  rintro u w k a p b q hk ⟨rfl, rfl, rfl⟩ IH
  refine r2_R ag3 ?_
  rw [h8, h1, h3]
  refine r2_ite Iff.rfl (fun hlt => ?_) (fun _ => r2_some (r2_some rfl))
  have hkn : k < n := (nI_ltI (by omega) (by omega)).mp hlt
  rw [hV.h4 hkn, of5 (by omega), h1]
  simp only [Option.bind_some]
  rw [nI_1]
  exact IH _ _ _ _ hkn ⟨rfl, rfl, rfl⟩
theorem op_slices {LR : LRT} : Op_slices (RR LR) := by
  intro σ μ hR p x
  obtain ⟨n, hN, hV, hW⟩ := hR.nn
  obtain ⟨hn, h8, h3⟩ := id hN
  unfold q11_slices q12_slices
  dsimp only [lt]
  rcases one_cases hN p with ⟨h1, h2⟩ | ⟨i, hi, rfl, h1, h2⟩
  · rw [h1, h2]
    exact ⟨(.inl 2, σ), (0, up μ 0 0 1), rfl, by simp only [Bool.false_eq_true, not_false_eq_true, if_true, up_at, if_pos lt01, Option.bind_some], sx_thr (i := 0) (by decide) (by decide) rfl, hR.t0⟩
  · rw [h1, h2]
    rcases num_cases x 0 999 with ⟨h5, h6⟩ | ⟨h5, h6, h7, h8'⟩
    · rw [h5, h6]
      exact ⟨(.inl 0, σ), (0, up μ 0 0 2), rfl, by simp only [Bool.false_eq_true, not_false_eq_true, not_true_eq_false, if_false, if_true, up_at, if_pos lt02, Option.bind_some], sx_thr (i := 1) (by decide) (by decide) rfl, hR.t0⟩
    · rw [h5, h6]
      simp only [thn, not_true_eq_false, if_false, Option.bind_some, up_at, if_neg lt0]
      obtain ⟨s, s', e1, e2, rfl⟩ := hunAll hV (ν := up μ 0 0 0) up0_1
      rw [e1, e2]
      simp only [Option.bind_some]
      by_cases hs : s = 0
      · subst hs
        exact ⟨(.inr 0, σ), (0, up μ 0 0 0), rfl, rfl, sx_ok up_at, hR.t0⟩
      · rw [if_neg hs, if_neg hs]
        have key : R2 (loop2 (fun (rec14_ : Int32 → Int32 → Option (Int32 × Int32)) (left17_ : Int32) (p18_ : Int32) => if p18_ < (σ 44 8) then Option.bind (ag σ (44 + 1) 6 p18_) fun x25_ => Option.bind (dv (x * x25_) s) fun x27_ => rec14_ (left17_ - x27_) (p18_ + 1) else (some (left17_, p18_))) fuelN x 0)
            (loop2 (fun (rec30_ : Int32 → Int32 → Option (Int32 × Int32)) (left33_ : Int32) (o34_ : Int32) => Option.bind (ag (up μ 0 0 0) 1 752 3) fun x39_ => if o34_ < x39_ then Option.bind (q12_of (up μ 0 0 0) o34_ 0) fun x43_ => Option.bind (dv (x * x43_) s) fun x45_ => rec30_ (left33_ - x45_) (o34_ + 1) else (some (left33_, o34_))) fuelN x 0) (fun a b => a.1 = b.1) := by
          refine lpR22 n (fun k a p b q => p = nI k ∧ q = nI k ∧ a = b) ?_ fuelN fuelN 0 x 0 x 0 (Nat.zero_le _) (fuel_ok (by omega)) (fuel_ok (by omega)) ⟨rfl, rfl, rfl⟩
          rintro u w k a p b q hk ⟨rfl, rfl, rfl⟩ IH
          refine r2_R ag3 ?_
          rw [h8, up0_1, h3]
          refine r2_ite Iff.rfl (fun hlt => ?_) (fun _ => r2_some rfl)
          have hkn : k < n := (nI_ltI (by omega) (by omega)).mp hlt
          rw [hV.h1 hkn, of0 (by omega), up0_1]
          unfold dv
          simp only [Option.bind_some, if_neg hs]
          rw [nI_1]
          exact IH _ _ _ _ hkn ⟨rfl, rfl, rfl⟩
        obtain ⟨ya, yb, e3, e4, e5⟩ := key
        rw [e3, e4, hV.h1 hi, of0 (by omega), up0_1]
        unfold dv
        simp only [Option.bind_some, if_neg hs]
        exact ⟨(.inr (x * μ 1 (14 + 7 * i) / s + if nI i < ya.1 then 1 else 0), σ), (x * μ 1 (14 + 7 * i) / s + if nI i < yb.1 then 1 else 0, up μ 0 0 0), rfl, rfl, ⟨(up_at : up μ 0 0 0 0 0 = 0), by rw [e5]⟩, hR.t0⟩

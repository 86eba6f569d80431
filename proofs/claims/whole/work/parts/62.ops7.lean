/-! LAYER 2: FETCH AND COUNTS -/
def pcn (a : Nat) : Nat → Nat
  | 0 => 0
  | k + 1 => pcn a k + (if a.testBit k = true then 1 else 0)
theorem pcn_s {a k : Nat} : pcn a (k + 1) = pcn a k + (if a.testBit k = true then 1 else 0) := rfl
theorem shr_bit : ∀ a, a < 64 → ∀ k, k < 31 → (shr (nI a) (nI k)) &&& 1 = nI (if a.testBit k = true then 1 else 0) := by decide +kernel
theorem bcount_pcn : ∀ a, a < 64 → bcount (nI a) = nI (pcn a 31) := by decide +kernel
theorem bits_ok {a : Nat} (h : a < 64) : q12_bits (nI a) = some (bcount (nI a)) := by
  have : Wo (q12_bits (nI a)) (fun r => r = nI (pcn a 31)) := by
    unfold q12_bits
    dsimp only [lt]
    refine wo_bind ?_
    refine lpW2 31 (fun k n p => p = nI k ∧ n = nI (pcn a k)) ?_ fuelN 0 0 0 (Nat.zero_le _) (fuel_ok (by omega)) ⟨rfl, rfl⟩
    rintro rec k n p hk ⟨rfl, rfl⟩ IH
    refine wo_ite (fun hlt => ?_) (fun hge => ?_)
    · have hkn : k < 31 := (nI_ltI (b := 31) (by omega) (by omega)).mp hlt
      rw [shr_bit a h k hkn, nI_add, nI_1]
      exact IH _ _ hkn ⟨rfl, rfl⟩
    · have : k = 31 := by
        have : ¬ k < 31 := fun q => hge (nI_lt (b := 31) q (by omega))
        omega
      subst this
      exact wo_some (wo_some rfl)
  obtain ⟨r, e, rfl⟩ := this
  rw [e, bcount_pcn a h]
theorem op_fetch {LR : LRT} : Op_fetch (RR LR) := by
  intro σ μ hR p
  obtain ⟨n, hN, hV, hW⟩ := hR.nn
  have hn := hN.1
  unfold q11_fetch q12_fetch
  dsimp only [lt]
  rcases one_cases hN p with ⟨h1, h2⟩ | ⟨i, hi, rfl, h1, h2⟩
  · rw [h1, h2]
    exact ⟨(.inl 2, σ), (0, up μ 0 0 1), rfl, by simp only [Bool.false_eq_true, not_false_eq_true, if_true, up_at, if_pos lt01, Option.bind_some], sx_thr (i := 0) (by decide) (by decide) rfl, hR.t0⟩
  · rw [h1, h2]
    simp only [thN, Option.bind_some, not_true_eq_false, if_false, up_at, if_neg lt0]
    rw [hV.hb hi, of4 (by omega), up0_1]
    simp only [Option.bind_some]
    rcases wB hW hi with ⟨b1, b2⟩ | ⟨b1, b2⟩
    · rw [b1, b2]
      exact ⟨(.inl 1, σ), (0, up (up μ 0 0 0) 0 0 2), rfl, by simp only [Option.bind_some, if_true, up_at, if_pos lt02], sx_thr (i := 1) (by decide) (by decide) rfl, hR.t0.t0⟩
    · rw [b1, b2]
      simp only [not_true_eq_false, if_false, one_ne_zero32, Option.bind_some, up_at, if_neg lt0]
      obtain ⟨σ1, μ1, e1, e2, hR1, k1, k2, k3⟩ := rem_ok ((hR.t0 (x := 0)).t0 (x := 0))
      have hm1 : μ1 1 = μ 1 := (k2 1 (by decide) (by decide)).trans (up0_1.trans up0_1)
      have e10 : σ1 44 10 = nI (bs (fB (μ1 1)) n) := by
        rw [k1 44 (by decide) (by decide), hm1]
        exact hV.2.2.1.2
      have g1 : RR LR (up σ1 44 10 (q11_without (nI (bs (fB (μ1 1)) n)) (nI i))) (up μ1 1 (14 + 7 * i + 4) 0) := hR1.put 44 10 (14 + 7 * i + 4) _ _ (by decide) (by decide) (by omega) (by omega) (by omega) (fun n1 hV1 hW1 => by
          have en := n_same hN hm1 hV1
          subst en
          exact ⟨by rw [vd_du0]; exact hV1.uB0 hi, WFm.uB hn hW1 hi (inR_nI (a := 0) (by omega))⟩)
      have hm3 : up μ1 1 (14 + 7 * i + 4) 0 1 3 = nI n := by rw [up_off (by omega), hm1]; exact hN.2.2
      have g2 := g1.put (44 + 1) i (14 + 7 * i + 0) 5 5 (by decide) (by decide) (by omega) (by omega) (by omega) (fun n1 hV1 hW1 => by
          have en : n1 = n := (nI_eq (by have := hV1.1.1; omega) (by omega)).mp (hV1.1.2.2.symm.trans hm3)
          subst en
          exact ⟨by rw [vd_du]; exact hV1.uH hi, WFm.uH hn hW1 hi (inR_nI (a := 5) (by omega))⟩)
      obtain ⟨n2, hN2, hV2, hW2⟩ := g2.nn
      have h10 : up (up σ1 44 10 (q11_without (nI (bs (fB (μ1 1)) n)) (nI i))) (44 + 1) i 5 44 10 = nI (bs (fB (up (up μ1 1 (14 + 7 * i + 4) 0) 1 (14 + 7 * i + 0) 5 1)) n2) := hV2.2.2.1.2
      refine ⟨(.inr (bcount (nI (bs (fB (up (up μ1 1 (14 + 7 * i + 4) 0) 1 (14 + 7 * i + 0) 5 1)) n2))), up (up σ1 44 10 (q11_without (nI (bs (fB (μ1 1)) n)) (nI i))) (44 + 1) i 5), (bcount (nI (bs (fB (up (up μ1 1 (14 + 7 * i + 4) 0) 1 (14 + 7 * i + 0) 5 1)) n2)), up (up μ1 1 (14 + 7 * i + 4) 0) 1 (14 + 7 * i + 0) 5), ?_, ?_, sx_ok ?_, g2⟩
      · show Option.bind (q4_remember σ 44) _ = _
        rw [e1]
        simp only [Option.bind_some]
        rw [e10, sa_nI (k := i) rfl (by omega) (by decide)]
        simp only [Option.bind_some]
        rw [h10]
      · rw [show (4 : Int32) = nI 4 from rfl, sets_ok e2 (ji := (14 : Int32) + 7 * nI i + nI 4) (ix_of i 4) (by omega)]
        simp only [Option.bind_some]
        rw [show (0 : Int32) = nI 0 from rfl, lays_nI (by omega) (by omega)]
        simp only [Option.bind_some]
        rw [show nI 4 = (4 : Int32) from rfl, show nI 0 = (0 : Int32) from rfl, those4 hN2.2.2 hN2.1 hW2]
        simp only [Option.bind_some]
        rw [bits_ok (bs_le hN2.1 _)]
        rfl
      · show up (up μ1 1 _ _) 1 _ _ 0 0 = 0
        rw [up_pl (by decide), up_pl (by decide), k3 0 (by decide), up_at]

/-! LAYER 2: OPERATIONS THAT CHANGE ONE PLACE -/
theorem op_seed {LR : LRT} : Op_seed (RR LR) := by
  intro σ μ hR x
  obtain ⟨n, ⟨hn, h8, h3⟩, hV, hW⟩ := hR.nn
  have e9 : σ 44 15 = μ 1 9 := hV.2.2.2.2.2.1.2.2.2.2.1
  refine ⟨(σ 44 15, up σ 44 15 x), (μ 1 9, up (up μ 0 0 0) 1 9 x), rfl, ?_, e9, ?_⟩
  · unfold q12_seed
    dsimp only [lt]
    rw [ag_m (j := 9) (k := 9) rfl (by decide), sa_m (j := 9) (k := 9) rfl (by decide), up0_1]
    rfl
  · refine hR.t0.vil (x := 0) ?_ (fun i hi => up_pl (by omega)) (fun i h0 h1 => up_pl h1) (by rw [up_pl (by decide)]) (by rw [up_pl (by decide)]) (by rw [up_pl (by decide)]) (by rw [up_pl (by decide)]) (by rw [up_off (by decide)]) (by rw [up_off (by decide)]) (fun k => by rw [up_off (by omega)])
    refine ⟨n, ?_, ?_⟩
    · show RVd (vd (up σ 44 15 x) 44) (up (up μ 0 0 0) 1 9 x 1) n
      rw [vd_du0, up_mu, up0_1]
      exact hV.uSd
    · show WFm (up (up μ 0 0 0) 1 9 x 1) n
      rw [up_mu, up0_1]
      exact WFm.uSd hn hW
theorem bring_in {a b : Nat} (ha : a ≤ 9999) (hb : b ≤ 999) : imin 9999 (nI a + nI b) = nI (min 9999 (a + b)) := by
  rw [nI_add]
  exact imin_nI (a := 9999) (by omega) (by omega)
theorem op_bring {LR : LRT} : Op_bring (RR LR) := by
  intro σ μ hR x
  obtain ⟨n, ⟨hn, h8, h3⟩, hV, hW⟩ := hR.nn
  unfold q11_bring q12_bring
  dsimp only [lt]
  rcases num_cases x 1 999 with ⟨h1, h2⟩ | ⟨h1, h2, h4, h5⟩
  · rw [h1, h2]
    exact ⟨(.inl 0, σ), (0, up μ 0 0 1), rfl, by simp only [Bool.false_eq_true, not_false_eq_true, if_true, up_at, if_pos lt01], sx_thr (i := 0) (by decide) (by decide) rfl, hR.t0⟩
  · rw [h1, h2]
    simp only [not_true_eq_false, if_false, up_at, if_neg lt0]
    obtain ⟨σ1, μ1, e1, e2, hR1, k1, k2, k3⟩ := rem_ok (hR.t0 (x := 0))
    have hm1 : μ1 1 = μ 1 := (k2 1 (by decide) (by decide)).trans up0_1
    obtain ⟨b, hb, rfl⟩ := nI_of2 (x := x) (M := 999) (n := 999) (by decide) (fun q => absurd (Int32.le_trans h4 (Int32.le_of_lt q)) (by decide)) h5
    obtain ⟨a, ha, ea⟩ := hW.2.2.2.1
    have ef : σ1 44 11 = nI a := by
      rw [k1 44 (by decide) (by decide)]
      exact (hV.2.2.2.2.2.1.1).trans ea
    refine ⟨(.inr (nI (min 9999 (a + b))), up σ1 44 11 (nI (min 9999 (a + b)))), (nI (min 9999 (a + b)), up μ1 1 5 (nI (min 9999 (a + b)))), ?_, ?_, sx_ok ?_, ?_⟩
    · show Option.bind (q4_remember σ 44) _ = _
      rw [e1]
      show some (Sum.inr (up σ1 44 11 (imin 9999 (σ1 44 11 + nI b)) 44 11), up σ1 44 11 (imin 9999 (σ1 44 11 + nI b))) = _
      rw [up_at, ef, bring_in ha hb]
    · rw [ag_m (j := 5) (k := 5) rfl (by decide), up0_1, ea]
      show Option.bind (q12_sets _ 5 _) _ = _
      unfold q12_sets
      rw [← imin_le, bring_in ha hb, e2]
      show Option.bind (Option.bind (ag μ1 1 752 5) _) _ = _
      rw [ag_m (j := 5) (k := 5) rfl (by decide), sa_m (j := 5) (k := 5) rfl (by decide)]
      show Option.bind (ag (up μ1 1 5 _) 1 752 5) _ = _
      rw [ag_m (j := 5) (k := 5) rfl (by decide), up_at]
      rfl
    · show up μ1 1 5 _ 0 0 = 0
      rw [up_pl (by decide), k3 0 (by decide), up_at]
    · refine hR1.vil ?_ (fun i hi => up_pl (by omega)) (fun i h0 h1 => up_pl h1) (by rw [up_pl (by decide)]) (by rw [up_pl (by decide)]) (by rw [up_pl (by decide)]) (by rw [up_pl (by decide)]) (by rw [up_off (by decide)]) (by rw [up_off (by decide)]) (fun k => by rw [up_off (by omega)])
      obtain ⟨n1, hV1, hW1⟩ := hR1.1
      refine ⟨n1, ?_, ?_⟩
      · show RVd (vd (up σ1 44 11 _) 44) (up μ1 1 5 _ 1) n1
        rw [vd_du0, up_mu]
        exact hV1.uFl
      · show WFm (up μ1 1 5 _ 1) n1
        rw [up_mu]
        exact WFm.uFl hV1.1.1 hW1 (inR_nI (by omega))

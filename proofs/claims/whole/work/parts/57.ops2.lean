/-! LAYER 2: OPERATIONS THAT CHANGE ONE PLACE -/
theorem RR.put {LR : LRT} {σ μ : St} (h : RR LR σ μ) (i k j : Nat) (x y : Int32) (hi : 44 ≤ i) (hi2 : i < 54) (hj : j < 352) (hj1 : j ≠ 1) (hj2 : j ≠ 2) (hV : ∀ n, RVd (vd σ 44) (μ 1) n → WFm (μ 1) n → RVd (vd (up σ i k x) 44) (mu (μ 1) j y) n ∧ WFm (mu (μ 1) j y) n) : RR LR (up σ i k x) (up μ 1 j y) := by
  refine RR.vil (σ' := up σ i k x) (μ' := up μ 1 j y) h ?_ (fun a ha => up_pl (by omega)) (fun a h0 h1 => up_pl h1) (by rw [up_pl (by decide)]) (by rw [up_pl (by decide)]) (by rw [up_pl (by decide)]) (by rw [up_pl (by decide)]) (up_off (by omega)) (up_off (by omega)) (fun q => up_off (by omega)) (fun h => h.eq (by rw [up_pl (by decide)]) (by rw [up_pl (by decide)]) (by rw [up_pl (by decide)]))
  obtain ⟨n, h1, h2⟩ := h.1
  rw [up_mu]
  exact ⟨n, (hV n h1 h2).1, (hV n h1 h2).2⟩
theorem op_seed {LR : LRT} : Op_seed (RR LR) := by
  intro σ μ hR x
  obtain ⟨n, ⟨hn, h8, h3⟩, hV, hW⟩ := hR.nn
  have e9 : σ 44 15 = μ 1 9 := hV.2.2.2.2.2.1.2.2.2.2.1
  refine ⟨(σ 44 15, up σ 44 15 x), (μ 1 9, up (up μ 0 0 0) 1 9 x), rfl, ?_, e9, ?_⟩
  · unfold q12_seed
    dsimp only [lt]
    rw [ag_m (j := 9) (k := 9) rfl (by decide), sa_m (j := 9) (k := 9) rfl (by decide), up0_1]
    rfl
  · exact (hR.t0 (x := 0)).put 44 15 9 x x (by decide) (by decide) (by decide) (by decide) (by decide) (fun n hV hW => ⟨by rw [vd_du0]; exact hV.uSd, WFm.uSd hV.1.1 hW⟩)
theorem bring_in {a b : Nat} (ha : a ≤ 9999) (hb : b ≤ 999) : imin 9999 (nI a + nI b) = nI (min 9999 (a + b)) := by
  rw [nI_add]
  exact imin_nI (a := 9999) (by omega) (by omega)
/-- a place of the row is told -/
theorem sets_ok {μ μ1 : St} {j : Nat} {ji x : Int32} (e : q12_remembers μ = some μ1) (hj : ji = nI j) (h : j < 752) : q12_sets μ ji x = some (μ1 1 j, up μ1 1 j x) := by
  unfold q12_sets
  rw [e]
  show Option.bind (ag μ1 1 752 ji) _ = _
  rw [ag_m hj h]
  show Option.bind (sa μ1 1 752 ji x) _ = _
  rw [sa_m hj h]
  rfl
theorem op_bring {LR : LRT} : Op_bring (RR LR) := by
  intro σ μ hR x
  obtain ⟨n, ⟨hn, h8, h3⟩, hV, hW⟩ := hR.nn
  unfold q11_bring q12_bring
  dsimp only [lt]
  rcases num_cases x 1 999 with ⟨h1, h2⟩ | ⟨h1, h2, h4, h5⟩
  · rw [h1, h2]
    exact ⟨(.inl 0, σ), (0, up μ 0 0 1), rfl, by simp only [Bool.false_eq_true, not_false_eq_true, if_true, up_at, if_pos lt01], sx_thr (i := 0) (by decide) (by decide) rfl, hR.t0⟩
  · rw [h1, h2]
    simp only [not_true_eq_false, if_false, up_at, if_neg lt0]
    obtain ⟨σ1, μ1, e1, e2, hR1, k1, k2, k3⟩ := rem_ok (hR.t0 (x := 0))
    obtain ⟨b, hb, rfl⟩ := nI_of2 (x := x) (M := 999) (n := 999) (by decide) (fun q => absurd (Int32.le_trans h4 (Int32.le_of_lt q)) (by decide)) h5
    obtain ⟨a, ha, ea⟩ := hW.2.2.2.1
    have ef : σ1 44 11 = nI a := by
      rw [k1 44 (by decide) (by decide)]
      exact (hV.2.2.2.2.2.1.1).trans ea
    refine ⟨(.inr (nI (min 9999 (a + b))), up σ1 44 11 (nI (min 9999 (a + b)))), (nI (min 9999 (a + b)), up μ1 1 5 (nI (min 9999 (a + b)))), ?_, ?_, sx_ok ?_, ?_⟩
    · show Option.bind (q4_remember σ 44) _ = _
      rw [e1]
      show some (Sum.inr (up σ1 44 11 (imin 9999 (σ1 44 11 + nI b)) 44 11), up σ1 44 11 (imin 9999 (σ1 44 11 + nI b))) = _
      rw [up_at, ef, bring_in ha hb]
    · rw [ag_m (j := 5) (k := 5) rfl (by decide), up0_1, ea]
      show Option.bind (q12_sets (up μ 0 0 0) 5 (q12_lesser 9999 (nI a + nI b))) _ = _
      rw [← imin_le, bring_in ha hb, sets_ok e2 (ji := 5) (j := 5) rfl (by decide)]
      simp only [Option.bind_some]
      rw [ag_m (j := 5) (k := 5) rfl (by decide), up_at]
      rfl
    · show up μ1 1 5 _ 0 0 = 0
      rw [up_pl (by decide), k3 0 (by decide), up_at]
    · exact hR1.put 44 11 5 _ _ (by decide) (by decide) (by decide) (by decide) (by decide) (fun n hV hW => ⟨by rw [vd_du0]; exact hV.uFl, WFm.uFl hV.1.1 hW (inR_nI (by omega))⟩)
theorem op_way {LR : LRT} : Op_way (RR LR) := by
  intro σ μ hR x
  obtain ⟨n, ⟨hn, h8, h3⟩, hV, hW⟩ := hR.nn
  unfold q11_way q12_way
  dsimp only [lt]
  rcases num_cases x 0 5 with ⟨h1, h2⟩ | ⟨h1, h2, h4, h5⟩
  · rw [h1, h2]
    exact ⟨(.inl 0, σ), (0, up μ 0 0 1), rfl, by simp only [Bool.false_eq_true, not_false_eq_true, if_true, up_at, if_pos lt01, Option.bind_some], sx_thr (i := 0) (by decide) (by decide) rfl, hR.t0⟩
  · rw [h1, h2]
    simp only [not_true_eq_false, if_false, up_at, if_neg lt0]
    obtain ⟨σ1, μ1, e1, e2, hR1, k1, k2, k3⟩ := rem_ok (hR.t0 (x := 0))
    obtain ⟨b, hb, rfl⟩ := nI_of2 (x := x) (M := 5) (n := 5) (by decide) (Int32.not_lt.mpr h4) h5
    have ef : σ1 44 13 = μ1 1 6 := by
      obtain ⟨n1, hV1, -⟩ := hR1.1
      exact hV1.2.2.2.2.2.1.2.2.1
    refine ⟨(.inr (μ1 1 6), up σ1 44 13 (nI b)), (μ1 1 6, up μ1 1 6 (nI b)), ?_, ?_, sx_ok ?_, ?_⟩
    · show Option.bind (q4_remember σ 44) _ = _
      rw [e1]
      show some (Sum.inr (σ1 44 13), up σ1 44 13 (nI b)) = _
      rw [ef]
    · rw [sets_ok e2 (ji := 6) (j := 6) rfl (by decide)]
      rfl
    · show up μ1 1 6 _ 0 0 = 0
      rw [up_pl (by decide), k3 0 (by decide), up_at]
    · exact hR1.put 44 13 6 _ _ (by decide) (by decide) (by decide) (by decide) (by decide) (fun n hV hW => ⟨by rw [vd_du0]; exact hV.uWy, WFm.uWy hV.1.1 hW (inR_nI (by omega))⟩)
theorem op_join {LR : LRT} : Op_join (RR LR) := by
  intro σ μ hR p x
  obtain ⟨n, hN, hV, hW⟩ := hR.nn
  have hn := hN.1
  unfold q11_join q12_join
  dsimp only [lt]
  rcases one_cases hN p with ⟨h1, h2⟩ | ⟨i, hi, rfl, h1, h2⟩
  · rw [h1, h2]
    exact ⟨(.inl 2, σ), (0, up μ 0 0 1), rfl, by simp only [Bool.false_eq_true, not_false_eq_true, true_or, if_true, up_at, if_pos lt01, Option.bind_some], sx_thr (i := 0) (by decide) (by decide) rfl, hR.t0⟩
  · rw [h1, h2]
    unfold q11_needParty q12_isIn
    simp only [Option.bind_some, not_true_eq_false, false_or]
    rcases pk_ix x (n := 3) (by omega) with hp | hp | ⟨b, hb, rfl⟩
    · rw [if_pos (Or.inl hp), decide_eq_false (fun h => Int32.not_le.mpr hp h.1)]
      exact ⟨(.inl 2, σ), (0, up μ 0 0 1), rfl, by simp only [Bool.false_eq_true, not_false_eq_true, if_true, up_at, if_pos lt01, Option.bind_some], sx_thr (i := 0) (by decide) (by decide) rfl, hR.t0⟩
    · have h4 : (3 : Int32) ≤ x := hp
      rw [if_pos (Or.inr h4), decide_eq_false (fun h => absurd (Int32.le_trans h4 h.2) (by decide))]
      exact ⟨(.inl 2, σ), (0, up μ 0 0 1), rfl, by simp only [Bool.false_eq_true, not_false_eq_true, if_true, up_at, if_pos lt01, Option.bind_some], sx_thr (i := 0) (by decide) (by decide) rfl, hR.t0⟩
    · rw [if_neg (fun h => h.elim (nI_pos (by omega)) (nI_ge (b := 3) hb (by omega))), decide_eq_true ⟨nI_pos' (by omega), nI_le (b := 2) (by omega) (by omega)⟩]
      simp only [not_true_eq_false, if_false, up_at, if_neg lt0, Option.bind_some]
      obtain ⟨σ1, μ1, e1, e2, hR1, k1, k2, k3⟩ := rem_ok (hR.t0 (x := 0))
      have hm1 : μ1 1 = μ 1 := (k2 1 (by decide) (by decide)).trans up0_1
      refine ⟨(.inr (μ 1 (14 + 7 * i + 1)), up σ1 46 i (nI b)), (μ 1 (14 + 7 * i + 1), up μ1 1 (14 + 7 * i + 1) (nI b)), ?_, ?_, sx_ok ?_, ?_⟩
      · show Option.bind (q4_remember σ 44) _ = _
        rw [e1]
        show Option.bind (ag σ1 (44 + 2) 6 (nI i)) _ = _
        rw [ag_nI rfl (by omega) (by decide), k1 (44 + 2) (by decide) (by decide)]
        show Option.bind (sa σ1 (44 + 2) 6 (nI i) (nI b)) _ = _
        rw [sa_nI rfl (by omega) (by decide)]
        have h9 : σ (44 + 2) i = μ 1 (14 + 7 * i + 1) := (hV.2.1 i hi).2.1
        show some (Sum.inr (σ (44 + 2) i), up σ1 46 i (nI b)) = _
        rw [h9]
      · rw [sets_ok e2 (ji := (14 : Int32) + 7 * nI i + 1) (ix_of i 1) (by omega), hm1]
        rfl
      · show up μ1 1 _ _ 0 0 = 0
        rw [up_pl (by decide), k3 0 (by decide), up_at]
      · refine hR1.put 46 i (14 + 7 * i + 1) _ _ (by decide) (by decide) (by omega) (by omega) (by omega) (fun n1 hV1 hW1 => ?_)
        have hi1 : i < n1 := by
          have e3 : nI n1 = nI n := hV1.1.2.2.symm.trans ((congrFun hm1 3).trans hN.2.2)
          have := (nI_eq (by have := hV1.1.1; omega) (by omega)).mp e3
          omega
        exact ⟨by rw [show (46 : Nat) = 44 + 2 from rfl, vd_du]; exact hV1.uP hi1, WFm.uP hV1.1.1 hW1 hi1 (inR_nI (by omega))⟩

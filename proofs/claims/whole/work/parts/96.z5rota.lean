/-! LAYER 2: ROTA -/
theorem inR_n {x : Int32} {N : Nat} (hN : N < 2 ^ 31) (h : inR x N) : x = nI x.toNatClampNeg ∧ x.toNatClampNeg ≤ N := by
  obtain ⟨a, ha, rfl⟩ := h
  rw [nI_clamp (by omega)]
  exact ⟨rfl, ha⟩
def gOf (m : Nat → Int32) (k : Nat) : Nat := (m (10 + min 9999 ((m 4).toNatClampNeg + k) % 4)).toNatClampNeg
def nOf (m : Nat → Int32) : ND := (fun p => (m (14 + 7 * p)).toNatClampNeg, fB m, (m 5).toNatClampNeg)
theorem gOf_ok {m : Nat → Int32} {n : Nat} (hW : WFm m n) (k : Nat) : gOf m k ≤ 99 ∧ m (10 + min 9999 ((m 4).toNatClampNeg + k) % 4) = nI (gOf m k) := by
  have := inR_n (by decide) (hW.2.2.1 (min 9999 ((m 4).toNatClampNeg + k) % 4) (Nat.mod_lt _ (by decide)))
  exact ⟨this.2, this.1⟩
theorem nOf_ok {m : Nat → Int32} {n : Nat} (hW : WFm m n) : okN n (nOf m) := ⟨fun p hp => (inR_n (by decide) (hW.1 p hp).1).2, (inR_n (by decide) hW.2.2.2.1).2⟩
theorem gm_of {m : Nat → Int32} {n W : Nat} (h3 : m 3 = nI n) (hW : WFm m n) : GM (fS m) (gOf m) n W m := ⟨h3, fun p hp => wS hW hp, (m 4).toNatClampNeg, (inR_n (by decide) hW.2.2.2.2.1).2, (inR_n (by decide) hW.2.2.2.2.1).1, fun k _ => gOf_ok hW k⟩
theorem best9 {σ : St} {m : Nat → Int32} {n W : Nat} (hW5 : W ≤ 5) (hV : RVd (vd σ 44) m n) (hW : WFm m n) : Wo (q9_findBest σ 44 (nI W)) (fun s => s 14 10 = nI (rRun (fS m) (fRn m) (gOf m) n W 0 (nOf m) (fun _ => 0) (7, fun _ => 0)).1 ∧ (∀ i, i < W → s 20 i = eI ((rRun (fS m) (fRn m) (gOf m) n W 0 (nOf m) (fun _ => 0) (7, fun _ => 0)).2 i)) ∧ ∀ i, i < 14 ∨ 20 < i → s i = σ i) := by
  have hn := hV.1.1
  have h8 : σ 44 8 = nI n := hV.1.2.1
  have h9 : σ 44 9 = nI (bs (fS m) n) := hV.2.2.1.1
  have h10 : σ 44 10 = nI (bs (fB m) n) := hV.2.2.1.2
  have h11 : σ 44 11 = m 5 := hV.2.2.2.2.2.1.1
  have h12 : σ 44 12 = m 4 := hV.2.2.2.2.2.1.2.1
  unfold q9_findBest q10_runners
  dsimp only [lt]
  have e5 : imin (nI W) 5 = nI W := by
    rw [show (5 : Int32) = nI 5 from rfl, imin_nI (by omega) (by omega)]
    congr 1
    omega
  have eR : up (up σ 14 6 (σ 44 8)) 14 7 (up σ 14 6 (σ 44 8) 44 9) 44 9 &&& (up (up σ 14 6 (σ 44 8)) 14 7 (up σ 14 6 (σ 44 8) 44 9) 44 10 ^^^ -1) = nI (bs (fRn m) n) := by
    rw [up_pl (by decide), up_pl (by decide), h9, h10, run_bs hn]
    rfl
  have e9 : up σ 14 6 (σ 44 8) 44 9 = nI (bs (fS m) n) := by rw [up_pl (by decide)]; exact h9
  rw [eR, e5, e9, h8]
  have t6 : up (up (up (up (up σ 14 6 (nI n)) 14 7 (nI (bs (fS m) n))) 14 8 (nI (bs (fRn m) n))) 14 9 (nI W)) 14 10 7 14 6 = nI n := by rw [up_off (by decide), up_off (by decide), up_off (by decide), up_off (by decide), up_at]
  have t7 : up (up (up (up (up σ 14 6 (nI n)) 14 7 (nI (bs (fS m) n))) 14 8 (nI (bs (fRn m) n))) 14 9 (nI W)) 14 10 7 14 7 = nI (bs (fS m) n) := by rw [up_off (by decide), up_off (by decide), up_off (by decide), up_at]
  have t8 : up (up (up (up (up σ 14 6 (nI n)) 14 7 (nI (bs (fS m) n))) 14 8 (nI (bs (fRn m) n))) 14 9 (nI W)) 14 10 7 14 8 = nI (bs (fRn m) n) := by rw [up_off (by decide), up_off (by decide), up_at]
  have t9 : up (up (up (up (up σ 14 6 (nI n)) 14 7 (nI (bs (fS m) n))) 14 8 (nI (bs (fRn m) n))) 14 9 (nI W)) 14 10 7 14 9 = nI W := by rw [up_off (by decide), up_at]
  have t10 : up (up (up (up (up σ 14 6 (nI n)) 14 7 (nI (bs (fS m) n))) 14 8 (nI (bs (fRn m) n))) 14 9 (nI W)) 14 10 7 14 10 = 7 := up_at
  have tf : ∀ i, i ≠ 14 → up (up (up (up (up σ 14 6 (nI n)) 14 7 (nI (bs (fS m) n))) 14 8 (nI (bs (fRn m) n))) 14 9 (nI W)) 14 10 7 i = σ i := fun i hi => by rw [up_pl hi, up_pl hi, up_pl hi, up_pl hi, up_pl hi]
  generalize up (up (up (up (up σ 14 6 (nI n)) 14 7 (nI (bs (fS m) n))) 14 8 (nI (bs (fRn m) n))) 14 9 (nI W)) 14 10 7 = τ at t6 t7 t8 t9 t10 tf
  rw [sa_nI (σ := τ) (i := 16) (n := 6) (j := 0) (k := 0) rfl (by decide) (by decide), tf 44 (by decide), h11]
  simp only [Option.bind_some]
  rw [sa_nI (i := 17) (n := 6) (j := 0) (k := 0) rfl (by decide) (by decide), up_pl (show (44 : Nat) ≠ 16 by decide), tf 44 (by decide), h10]
  simp only [Option.bind_some]
  obtain ⟨κ, eκ, c1, c2⟩ := acp_g (σ := up (up τ 16 0 (m 5)) 17 0 (nI (bs (fB m) n))) (a := 44 + 1) (na := 6) (b := 15) (nb := 36) (n := 6) (x := 6) rfl (by omega) (by omega) (by omega)
  rw [eκ]
  simp only [Option.bind_some]
  have k15 : ∀ p, p < n → κ 15 (0 * 6 + p) = nI ((nOf m).1 p) := fun p hp => by
    rw [show 0 * 6 + p = p by omega, c1 p (by omega), up_pl (by decide), up_pl (by decide), tf 45 (by decide)]
    exact (hV.2.1 p hp).1.trans (inR_n (by decide) (hW.1 p hp).1).1
  have k16 : κ 16 0 = nI (nOf m).2.2 := by
    rw [c2 16 (by decide), up_pl (by decide), up_at]
    exact (inR_n (by decide) hW.2.2.2.1).1
  have k17 : κ 17 0 = nI (bs (nOf m).2.1 n) := by
    rw [c2 17 (by decide), up_at]
    rfl
  have kf : ∀ i, i ≠ 15 → i ≠ 16 → i ≠ 17 → κ i = τ i := fun i a b c => by rw [c2 i a, up_pl c, up_pl b]
  have hwk := inR_n (by decide) hW.2.2.2.2.1
  refine wo_bind (wo_mono (Q := fun y => (∀ i, i < W → y.2 18 i = nI (gOf m i)) ∧ ∀ i, i ≠ 18 → y.2 i = κ i) ?_ ?_)
  · refine lpW2 W (fun t p w => p = nI t ∧ (∀ i, i < t → w 18 i = nI (gOf m i)) ∧ ∀ i, i ≠ 18 → w i = κ i) ?_ fuelN 0 _ _ (Nat.zero_le _) (fuel_ok (by omega)) ⟨rfl, fun i hi => absurd hi (Nat.not_lt_zero _), fun _ _ => rfl⟩
    rintro rec t p w ht ⟨rfl, w18, wf⟩ IH
    rw [wf 14 (by decide), kf 14 (by decide) (by decide) (by decide), t9]
    refine wo_ite (fun hlt => ?_) (fun hge => ?_)
    · have htW : t < W := (nI_ltI (by omega) (by omega)).mp hlt
      have e1 : irm (imin 9999 (w 44 12 + nI t)) 4 = nI (min 9999 ((m 4).toNatClampNeg + t) % 4) := by
        rw [wf 44 (by decide), kf 44 (by decide) (by decide) (by decide), tf 44 (by decide), h12, hwk.1, nI_clamp (by omega), nI_add, show (9999 : Int32) = nI 9999 from rfl, imin_nI (by omega) (by omega), irm4 (by omega)]
      have e2 : w (44 + 7) (min 9999 ((m 4).toNatClampNeg + t) % 4) = nI (gOf m t) := by
        rw [wf _ (by decide), kf _ (by decide) (by decide) (by decide), tf _ (by decide)]
        exact (hV.2.2.2.2.1 _ (Nat.mod_lt _ (by decide))).trans (gOf_ok hW t).2
      rw [ag_nI (σ := w) e1 (Nat.mod_lt _ (by decide)) (by decide), e2]
      simp only [Option.bind_some]
      rw [sa_nI (σ := w) (i := 18) (n := 5) (j := nI t) (k := t) rfl (by omega) (by decide), nI_1]
      simp only [Option.bind_some]
      refine IH _ _ htW ⟨rfl, fun i hi => ?_, fun i hi => by rw [up_pl hi]; exact wf i hi⟩
      by_cases hit : i = t
      · subst hit; rw [up_at]
      · rw [up_off hit]; exact w18 i (by omega)
    · have : t = W := by
        have : ¬ t < W := fun q => hge (nI_lt q (by omega))
        omega
      subst this
      refine wo_some ?_
      try dsimp only
      exact ⟨w18, wf⟩
  · rintro ⟨y1, y⟩ ⟨y18, yf⟩
    dsimp only at y18 yf ⊢
    have y14 : y 14 = τ 14 := (yf 14 (by decide)).trans (kf 14 (by decide) (by decide) (by decide))
    have hL : LV (fS m) (fRn m) (gOf m) n W 0 (nOf m) (fun _ => 0) y := ⟨⟨by rw [y14]; exact t6, by rw [y14]; exact t7, by rw [y14]; exact t8, by rw [y14]; exact t9⟩, fun p hp => by rw [yf 15 (by decide)]; exact k15 p hp, by rw [yf 16 (by decide)]; exact k16, by rw [yf 17 (by decide)]; exact k17, y18, fun i hi => absurd hi (Nat.not_lt_zero _)⟩
    obtain ⟨s, es, sA, sF⟩ := search9 hn hW5 (fun i _ => (gOf_ok hW i).1) W 20 0 (nOf m) (fun _ => 0) (7, fun _ => 0) y (by omega) (by omega) (nOf_ok hW) hL ⟨by rw [y14]; exact t10, fun h => absurd h (by decide)⟩ (by decide)
    have es' : q9_search 20 y 0 = some s := es
    rw [es']
    refine wo_some ?_
    try dsimp only
    refine ⟨sA.1, sA.2 (rRun_6 hn _ _ _ _ _), fun i hi => ?_⟩
    rw [sF.1 i hi, yf i (by omega), kf i (by omega) (by omega) (by omega), tf i (by omega)]
theorem op_rota {LR : LRT} : Op_rota (RR LR) := by
  intro σ μ hR x z
  obtain ⟨n, hN, hV, hW⟩ := hR.nn
  have hn := hV.1.1
  unfold q11_rota q12_rota
  dsimp only [lt]
  rcases num_cases x 0 5 with ⟨h1, h2⟩ | ⟨h1, h2, h3, h4⟩
  · rw [h1, h2]
    exact ⟨(.inl 0, σ), (0, up μ 0 0 1), rfl, by simp only [Bool.false_eq_true, not_false_eq_true, if_true, up_at, if_pos lt01], sx_thr (i := 0) (by decide) (by decide) rfl, hR.t0⟩
  · rw [h1, h2]
    obtain ⟨W, hW5, rfl⟩ := num_le (M := 5) (by decide) h3 h4
    simp only [not_true_eq_false, if_false, up_at, if_neg lt0]
    have u1 : up μ 0 0 0 1 = μ 1 := up_pl (by decide)
    rw [those3 (μ := up μ 0 0 0) (n := n) (by rw [u1]; exact hV.1.2.2) hn (by rw [u1]; exact hW), those4 (μ := up μ 0 0 0) (n := n) (by rw [u1]; exact hV.1.2.2) hn (by rw [u1]; exact hW), u1]
    simp only [Option.bind_some]
    rw [run_bs hn]
    have v1 : up (up μ 0 0 0) 0 21 (nI (bs (fun p => fS (μ 1) p && !fB (μ 1) p) n)) 1 = μ 1 := by rw [up_pl (by decide), u1]
    obtain ⟨s, es, s1, s2, s3⟩ := best9 hW5 hV hW
    obtain ⟨⟨r1, u⟩, eu, q1, q2, q3⟩ := few9 (S := fS (μ 1)) (R := fRn (μ 1)) (g := gOf (μ 1)) (N := nOf (μ 1)) (m := μ 1) (μ := up (up μ 0 0 0) 0 21 (nI (bs (fun p => fS (μ 1) p && !fB (μ 1) p) n))) hn hW5 (gm_of hV.1.2.2 hW) (nOf_ok hW) v1 up_at (fun p hp => (inR_n (by decide) (hW.1 p hp).1).1) rfl hW (inR_n (by decide) hW.2.2.2.1).1
    dsimp only at q1 q2 q3
    subst q1
    rw [thn_n, es, eu]
    simp only [Option.bind_some]
    have hRs : RR LR s μ := hR.sC (fun i hi => s3 i (by unfold keepC at hi; omega)) (by rw [s3 1 (by omega)]) (by rw [s3 32 (by omega)]) (by rw [s3 32 (by omega)])
    have hR2 : RR LR s (up (up μ 0 0 0) 0 21 (nI (bs (fun p => fS (μ 1) p && !fB (μ 1) p) n))) := (hRs.t0 (x := 0)).thr (by decide) (by decide) (by decide) (by decide) (by decide) (by decide) (by decide)
    have hRu : RR LR s u := hR2.sM (q3 1 (by omega)) (q3 2 (by omega)) (q3 4 (by omega)) (q3 5 (by omega)) (by rw [q3 0 (by omega)]) (by rw [q3 0 (by omega)]) (by rw [q3 0 (by omega)]) (by rw [q3 0 (by omega)]) (fun q => q.eq (by rw [q3 0 (by omega)]) (by rw [q3 0 (by omega)]) (by rw [q3 0 (by omega)]))
    have h00 : u 0 0 = 0 := by rw [q3 0 (by omega), up_off (by decide), up_at]
    by_cases hz : z = -1
    · rw [if_pos hz, if_pos hz, s1]
      exact ⟨(.inr _, s), (_, u), rfl, rfl, sx_ok h00, hRu⟩
    · rw [if_neg hz, if_neg hz]
      have hP := pred_toInt (n := W) (by omega)
      rcases pk_ix z (n := W) (by omega) with hp | hp | ⟨i, hi, rfl⟩
      · rw [if_neg (fun q => Int32.not_le.mpr hp q.1), if_neg (show ¬ q12_isIn z 0 (nI W - 1) = true from fun q => Int32.not_le.mpr hp (of_decide_eq_true q).1)]
        exact ⟨(.inr (-1), s), (-1, u), rfl, rfl, sx_ok h00, hRu⟩
      · rw [if_neg (fun q => Int32.not_le.mpr q.2 hp), if_neg (show ¬ q12_isIn z 0 (nI W - 1) = true from fun q => by
          have h2 := (of_decide_eq_true q).2
          rw [Int32.le_iff_toInt_le] at h2 hp
          rw [hP] at h2
          rw [nI_toInt (by omega)] at hp
          omega)]
        exact ⟨(.inr (-1), s), (-1, u), rfl, rfl, sx_ok h00, hRu⟩
      · rw [if_pos ⟨nI_pos' (by omega), nI_lt hi (by omega)⟩, if_pos (show q12_isIn (nI i) 0 (nI W - 1) = true from decide_eq_true ⟨nI_pos' (by omega), by
          rw [Int32.le_iff_toInt_le, hP, nI_toInt (by omega)]
          omega⟩), ag_nI (σ := s) (i := 20) (n := 5) (j := nI i) (k := i) rfl (by omega) (by decide), ag_nI (σ := u) (i := 9) (n := 7) (j := nI i) (k := i) rfl (by omega) (by decide), s2 i hi, q2 i hi]
        exact ⟨(.inr _, s), (_, u), rfl, rfl, sx_ok h00, hRu⟩

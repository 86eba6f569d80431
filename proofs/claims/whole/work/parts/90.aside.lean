/-! LAYER 2: TRIED ON A SPARE VILLAGE -/
theorem thn_n {R : Type} {σ : St} {k : Option (Sum Nat R × St)} : thn none σ k = k := rfl
theorem aside_ok {LR : LRT} {σ μ : St} (hR : RR LR σ μ) : ∃ u, q12_putsAside μ = some u ∧ RR LR σ u ∧ (∀ k, k < 352 → u 3 k = u 1 k) ∧ u 1 = μ 1 ∧ u 0 = μ 0 := by
  refine ⟨cpy μ 1 3 0 0 352, ?_, ?_, fun k hk => ?_, cpy_pl (by decide), cpy_pl (by decide)⟩
  · unfold q12_putsAside
    rw [cp_loop (a := 1) (b := 3) (na := 752) (nb := 352) (KI := 352) (K := 352) (oa := 0) (ob := 0) (iR := fun k _ => k) (iW := fun k _ => k) rfl (by decide) (fun k s _ _ => by rw [Nat.zero_add]) (fun k s _ _ => by rw [Nat.zero_add]) (by decide) (by decide) (by decide) (by decide) (Or.inl (by decide))]
    rfl
  · exact hR.sM (cpy_pl (by decide)) (cpy_pl (by decide)) (cpy_pl (by decide)) (cpy_pl (by decide)) (by rw [cpy_pl (by decide)]) (by rw [cpy_pl (by decide)]) (by rw [cpy_pl (by decide)]) (by rw [cpy_pl (by decide)]) (fun q => q.eq (by rw [cpy_pl (by decide)]) (by rw [cpy_pl (by decide)]) (by rw [cpy_pl (by decide)]))
  · rw [cpy_in (by omega) (by omega), cpy_pl (by decide)]
    congr 1
    omega
theorem spare_ok {LR : LRT} {σ μ : St} {n : Nat} (hR : RR LR σ μ) (hV : RVd (vd σ 44) (μ 1) n) (hW : WFm (μ 1) n) : ∃ s, q10_become σ 54 44 = some s ∧ RR LR s μ ∧ Wk 54 n s μ ∧ RVd (vd s 44) (μ 1) n := by
  obtain ⟨s, es, e1, e2⟩ := bec_ok (σ := σ) (t := 54) (s := 44) (by omega)
  refine ⟨s, es, hR.sC (fun i hi => e2 i (by unfold keepC at hi; omega)) (by rw [e2 1 (by omega)]) (by rw [e2 32 (by omega)]) (by rw [e2 32 (by omega)]), ⟨hV.to e1, hW⟩, hV.mv (fun j hj => e2 _ (by omega))⟩
theorem back_ok {LR : LRT} {s μ s' u : St} (hR : RR LR s μ) (hA : ∀ k, k < 352 → μ 3 k = μ 1 k) (f : Fw 54 s μ s' u) : ∃ u', q12_comesBack u = some u' ∧ RR LR s' u' ∧ (∀ k, k < 352 → u' 3 k = u' 1 k) ∧ u' 1 = μ 1 ∧ ∀ k, k < 9 ∨ 21 < k ∨ k = 12 → u' 0 k = μ 0 k := by
  obtain ⟨f1, f2, f3, f4, f5, f6⟩ := f
  have e1 : cpy u 3 1 0 0 352 1 = μ 1 := by
    funext k
    by_cases hk : k < 352
    · rw [cpy_in (by omega) (by omega), f3 3 (by decide) (by decide) (by decide) (by decide)]
      have : 0 + (k - 0) = k := by omega
      rw [this]
      exact hA k hk
    · rw [cpy_out (by omega)]
      exact f5 k (by omega)
  refine ⟨cpy u 3 1 0 0 352, ?_, ?_, fun k hk => ?_, e1, fun k hk => by rw [cpy_pl (by decide)]; exact f4 k hk⟩
  · unfold q12_comesBack
    rw [cp_loop (a := 3) (b := 1) (na := 352) (nb := 752) (KI := 352) (K := 352) (oa := 0) (ob := 0) (iR := fun k _ => k) (iW := fun k _ => k) rfl (by decide) (fun k s _ _ => by rw [Nat.zero_add]) (fun k s _ _ => by rw [Nat.zero_add]) (by decide) (by decide) (by decide) (by decide) (Or.inl (by decide))]
    rfl
  · have hs : RR LR s' μ := hR.sC (fun i hi => f1 i (by unfold keepC at hi; omega) (by unfold keepC at hi; omega) (by unfold keepC at hi; omega) (by unfold keepC at hi; omega) (by unfold keepC at hi; omega)) (by rw [f1 1 (by omega) (by omega) (by decide) (by decide) (by decide)]) (f2 3 (by decide) (by decide)) (f2 4 (by decide) (by decide))
    refine hs.sM e1 ?_ ?_ ?_ ?_ ?_ ?_ ?_ (fun q => (f6 q).eq (by rw [cpy_pl (by decide)]) (by rw [cpy_pl (by decide)]) (by rw [cpy_pl (by decide)]))
    · rw [cpy_pl (by decide)]; exact f3 2 (by decide) (by decide) (by decide) (by decide)
    · rw [cpy_pl (by decide)]; exact f3 4 (by decide) (by decide) (by decide) (by decide)
    · rw [cpy_pl (by decide)]; exact f3 5 (by decide) (by decide) (by decide) (by decide)
    · rw [cpy_pl (by decide)]; exact f4 3 (by omega)
    · rw [cpy_pl (by decide)]; exact f4 6 (by omega)
    · rw [cpy_pl (by decide)]; exact f4 8 (by omega)
    · rw [cpy_pl (by decide)]; exact f4 12 (by omega)
  · rw [e1, cpy_pl (by decide), f3 3 (by decide) (by decide) (by decide) (by decide)]
    exact hA k hk
theorem t_of {v n : Nat} {s u : St} (h : Wk v n s u) : s v 10 = nI (bs (fB (u 1)) n) ∧ q12_those u 4 = some (nI (bs (fB (u 1)) n)) := ⟨h.1.2.2.1.2, those4 h.1.1.2.2 h.1.1.1 h.2⟩
theorem op_trial {LR : LRT} {fav : FavT} {ab : AbsT} (L : LawF LR fav ab) : Op_trial (RR LR) := by
  intro σ μ hR x b
  unfold q11_trial q12_trial
  dsimp only [lt]
  rcases num_cases x 0 60 with ⟨h1, h2⟩ | ⟨h1, h2, h3, h4⟩
  · rw [h1, h2]
    exact ⟨(.inl 0, σ), (0, up μ 0 0 1), rfl, by simp only [Bool.false_eq_true, not_false_eq_true, if_true, up_at, if_pos lt01], sx_thr (i := 0) (by decide) (by decide) rfl, hR.t0⟩
  · rw [h1, h2]
    obtain ⟨N, hN, rfl⟩ := num_le (M := 60) (by decide) h3 h4
    simp only [not_true_eq_false, if_false, up_at, if_neg lt0]
    obtain ⟨u, eu, hRu, hA, u1, u0⟩ := aside_ok (hR.t0 (x := 0))
    obtain ⟨n, -, hV, hW⟩ := hRu.nn
    obtain ⟨s, es, hRs, hws, -⟩ := spare_ok hRu hV hW
    obtain ⟨a, y, ea, ey, q1, q2, q3, -⟩ := bake_ok L (Or.inr rfl) hws hRs.2.2.2.2.2 (N := N) (by omega) true
    obtain ⟨u', eu', hRR, -, -, g0⟩ := back_ok hRs hA q2
    rw [thn_n, eu, es]
    simp only [Option.bind_some]
    rw [ea, ey]
    simp only [Option.bind_some]
    rw [eu']
    have h00 : u' 0 0 = 0 := by rw [g0 0 (by omega), u0, up_at]
    obtain ⟨c, d, ec, ed, rfl⟩ := hunAll (μ := y.2) (ν := y.2) q1.1 rfl
    obtain ⟨t1, t2⟩ := t_of q1
    cases b with
    | true =>
      simp only [if_true]
      rw [ec, ed]
      exact ⟨(.inr c, a), (c, u'), rfl, rfl, sx_ok h00, hRR⟩
    | false =>
      simp only [Bool.false_eq_true, if_false]
      rw [t1, t2]
      exact ⟨(.inr _, a), (_, u'), rfl, rfl, sx_ok h00, hRR⟩
theorem op_next {LR : LRT} {fav : FavT} {ab : AbsT} (L : LawF LR fav ab) : Op_next (RR LR) := by
  intro σ μ hR x
  unfold q11_next q12_next q11_lookAhead
  dsimp only [lt]
  rcases num_cases x 0 60 with ⟨h1, h2⟩ | ⟨h1, h2, h3, h4⟩
  · rw [h1, h2]
    exact ⟨(.inl 0, σ), (0, up μ 0 0 1), rfl, by simp only [Bool.false_eq_true, not_false_eq_true, if_true, up_at, if_pos lt01], sx_thr (i := 0) (by decide) (by decide) rfl, hR.t0⟩
  · rw [h1, h2]
    obtain ⟨N, hN, rfl⟩ := num_le (M := 60) (by decide) h3 h4
    simp only [not_true_eq_false, if_false, up_at, if_neg lt0]
    obtain ⟨u, eu, hRu, hA, u1, u0⟩ := aside_ok (hR.t0 (x := 0))
    obtain ⟨n, -, hV, hW⟩ := hRu.nn
    obtain ⟨s, es, hRs, hws, -⟩ := spare_ok hRu hV hW
    obtain ⟨a, y, ea, ey, q1, q2, q3, -⟩ := bake_ok L (Or.inr rfl) hws hRs.2.2.2.2.2 (N := N) (by omega) false
    have hLa := q2.law (LR := LR) (Or.inr rfl) hRs.2.2.2.2.2
    have hn := q1.1.1.1
    obtain ⟨p, ep, hC⟩ := hold_ok L (Or.inr rfl) q1.1 q1.2 hLa
    obtain ⟨z, ez, hM⟩ := looks_ok L (ν := y.2) rfl q1.1.1.2.2 hn q1.2 ⟨_, _, _, hLa⟩
    have z1 : z 1 = y.2 1 := hM.2.2.2.1 1 (by decide) (by decide) (by decide)
    obtain ⟨W, hWy, eW⟩ := q1.2.2.2.2.2.2.1
    have p13 : p 54 13 = nI W := by
      rw [hC.2.2.2.2.2.1 54 (by omega) (by omega) (by omega) (by omega)]
      exact (q1.1.2.2.2.2.2.1.2.2.1).trans eW
    obtain ⟨r, p', r1, r2, -, r4⟩ := winnerBy_ok L (w := W) hn q1.2 q1.1.1.2.2 z1 ⟨_, _, _, hLa⟩ hC hM (by omega)
    have fw : Fw 54 s u p' z := q2.tr ⟨fun i h1 h2 h3 h4 h5 => by rw [r4 i (by omega)]; exact hC.2.2.2.2.2.1 i (by omega) h3 h4 h5, fun k h1 h2 => by rw [r4 32 (by decide)]; exact hC.2.2.2.2.2.2 k h1 h2, fun i h0 h1 h6 h7 => hM.2.2.2.1 i h0 h6 h7, fun k hk => hM.2.2.2.2.1 k hk, fun k hk => by rw [z1], hM.2.2.2.2.2⟩
    obtain ⟨u', eu', hRR, -, -, g0⟩ := back_ok hRs hA fw
    have h00 : u' 0 0 = 0 := by rw [g0 0 (by omega), u0, up_at]
    rw [thn_n, eu, es]
    simp only [Option.bind_some]
    rw [ea, ey]
    simp only [Option.bind_some]
    rw [ep, ez]
    simp only [Option.bind_some]
    rw [ag_m (μ := z) (j := 6) (k := 6) rfl (by decide), z1, eW, p13]
    simp only [Option.bind_some]
    rw [r1, r2]
    simp only [Option.bind_some]
    rw [eu']
    exact ⟨(.inr r, p'), (r, u'), rfl, rfl, sx_ok h00, hRR⟩
theorem op_ahead {LR : LRT} {fav : FavT} {ab : AbsT} (L : LawF LR fav ab) : Op_ahead (RR LR) := by
  intro σ μ hR p x w
  obtain ⟨n0, hN0, hV0, hW0⟩ := hR.nn
  unfold q11_ahead q12_ahead q11_lookAhead
  dsimp only [lt]
  rcases one_cases hN0 p with ⟨g1, g2⟩ | ⟨i, hi, rfl, g1, g2⟩
  · rw [g1, g2]
    exact ⟨(.inl 2, σ), (0, up μ 0 0 1), rfl, by simp only [Bool.false_eq_true, not_false_eq_true, if_true, up_at, if_pos lt01, Option.bind_some], sx_thr (i := 0) (by decide) (by decide) rfl, hR.t0⟩
  rw [g1, g2]
  simp only [not_true_eq_false, if_false, Option.bind_some]
  rcases num_cases x 0 60 with ⟨h1, h2⟩ | ⟨h1, h2, h3, h4⟩
  · rw [h1, h2]
    exact ⟨(.inl 0, σ), (0, up μ 0 0 2), rfl, by simp only [Bool.false_eq_true, not_false_eq_true, if_true, up_at, if_pos (show (0 : Int32) < 2 by decide)], sx_thr (i := 1) (by decide) (by decide) rfl, hR.t0⟩
  rw [h1, h2]
  simp only [not_true_eq_false, if_false]
  obtain ⟨N, hN, rfl⟩ := num_le (M := 60) (by decide) h3 h4
  by_cases hw : w < 0 ∨ 2 < w
  · have hin : q12_isIn w 0 2 = false := by
      refine decide_eq_false (fun q => ?_)
      rcases hw with hw | hw
      · exact Int32.lt_irrefl (Int32.lt_of_lt_of_le hw q.1)
      · exact Int32.lt_irrefl (Int32.lt_of_lt_of_le hw q.2)
    rw [hin]
    refine ⟨(.inl 4, σ), (0, up μ 0 0 3), ?_, ?_, sx_thr (i := 2) (by decide) (by decide) rfl, hR.t0⟩
    · rw [thn_n, thn_n, if_pos hw]
    · simp only [Bool.false_eq_true, not_false_eq_true, if_true, up_at, if_pos (show (0 : Int32) < 3 by decide)]
  · have hw1 : ¬ w < 0 := fun q => hw (Or.inl q)
    have hw2 : w ≤ 2 := Int32.not_lt.mp (fun q => hw (Or.inr q))
    have hin : q12_isIn w 0 2 = true := decide_eq_true ⟨Int32.not_lt.mp hw1, hw2⟩
    rw [hin]
    simp only [not_true_eq_false, if_false, up_at, if_neg lt0]
    obtain ⟨W, hWl, rfl⟩ := num_le (M := 2) (by decide) (Int32.not_lt.mp hw1) hw2
    obtain ⟨u, eu, hRu, hA, u1, u0⟩ := aside_ok (hR.t0 (x := 0))
    have u1' : u 1 = μ 1 := u1.trans up0_1
    have hV : RVd (vd σ 44) (u 1) n0 := by rw [u1']; exact hV0
    have hW : WFm (u 1) n0 := by rw [u1']; exact hW0
    obtain ⟨s, es, hRs, hws, -⟩ := spare_ok hRu hV hW
    obtain ⟨a, y, ea, ey, q1, q2, q3, -⟩ := bake_ok L (Or.inr rfl) hws hRs.2.2.2.2.2 (N := N) (by omega) false
    obtain ⟨u', eu', hRR, -, -, g0⟩ := back_ok hRs hA q2
    have h00 : u' 0 0 = 0 := by rw [g0 0 (by omega), u0, up_at]
    have hn := q1.1.1.1
    rw [thn_n, thn_n, if_neg hw, eu, es]
    simp only [Option.bind_some]
    rw [ea, ey]
    simp only [Option.bind_some]
    rw [eu']
    rcases (show W = 0 ∨ W = 1 ∨ W = 2 by omega) with rfl | rfl | rfl
    · rw [if_pos (show nI 0 = 0 by decide), if_pos (show nI 0 = 0 by decide), of0 (by omega), q1.1.h1 hi]
      exact ⟨(.inr _, a), (_, u'), rfl, rfl, sx_ok h00, hRR⟩
    · rw [if_neg (show ¬ nI 1 = 0 by decide), if_pos (show nI 1 = 1 by decide), if_neg (show ¬ nI 1 = 0 by decide), if_pos (show nI 1 = 1 by decide), of5 (by omega), q1.1.h4 hi]
      exact ⟨(.inr _, a), (_, u'), rfl, rfl, sx_ok h00, hRR⟩
    · rw [if_neg (show ¬ nI 2 = 0 by decide), if_neg (show ¬ nI 2 = 1 by decide), if_neg (show ¬ nI 2 = 0 by decide), if_neg (show ¬ nI 2 = 1 by decide), of4 (by omega), q1.1.hb hi]
      rcases wB q1.2 hi with ⟨b1, b2⟩ | ⟨b1, b2⟩
      · rw [b1, b2]
        exact ⟨(.inr 0, a), (0, u'), rfl, rfl, sx_ok h00, hRR⟩
      · rw [b1, b2]
        exact ⟨(.inr 1, a), (1, u'), rfl, rfl, sx_ok h00, hRR⟩

/-! LAYER 2: FAVOUR, COUNT -/
theorem RR.heldC {LR : LRT} {fav : FavT} {ab : AbsT} {σ s μ : St} {m : Nat → Int32} {n : Nat} (h : RR LR σ μ) (e : HeldC fav ab σ s m n) : RR LR s μ := h.sC (fun i hi => e.2.2.2.2.2.1 i (by unfold keepC at hi; omega) (by unfold keepC at hi; omega) (by unfold keepC at hi; omega) (by unfold keepC at hi; omega)) (by rw [e.2.2.2.2.2.1 1 (by omega) (by decide) (by decide) (by decide)]) (e.2.2.2.2.2.2 3 (by decide) (by decide)) (e.2.2.2.2.2.2 4 (by decide) (by decide))
theorem RR.heldM {LR : LRT} {fav : FavT} {ab : AbsT} {σ μ u : St} {m : Nat → Int32} {n : Nat} (h : RR LR σ μ) (e : HeldM fav ab μ u m n) : RR LR σ u := h.sM (e.2.2.2.1 1 (by decide) (by decide) (by decide)) (e.2.2.2.1 2 (by decide) (by decide) (by decide)) (e.2.2.2.1 4 (by decide) (by decide) (by decide)) (e.2.2.2.1 5 (by decide) (by decide) (by decide)) (e.2.2.2.2.1 3 (by omega)) (e.2.2.2.2.1 6 (by omega)) (e.2.2.2.2.1 8 (by omega)) (e.2.2.2.2.1 12 (by omega)) e.2.2.2.2.2
theorem RR.fvC {LR : LRT} {σ s μ : St} (h : RR LR σ μ) (e : ∀ i, i ≠ 32 → i ≠ 34 → i ≠ 35 → s i = σ i) (e2 : ∀ k, k ≠ 5 → k ≠ 6 → s 32 k = σ 32 k) : RR LR s μ := h.sC (fun i hi => e i (by unfold keepC at hi; omega) (by unfold keepC at hi; omega) (by unfold keepC at hi; omega)) (by rw [e 1 (by decide) (by decide) (by decide)]) (e2 3 (by decide) (by decide)) (e2 4 (by decide) (by decide))
theorem RR.fvM {LR : LRT} {σ μ u : St} (h : RR LR σ μ) (e : ∀ i, i ≠ 0 → i ≠ 6 → u i = μ i) (e2 : ∀ k, k < 9 ∨ 18 < k ∨ k = 12 → u 0 k = μ 0 k) (hf : RFl μ → RFl u) : RR LR σ u := h.sM (e 1 (by decide) (by decide)) (e 2 (by decide) (by decide)) (e 4 (by decide) (by decide)) (e 5 (by decide) (by decide)) (e2 3 (by omega)) (e2 6 (by omega)) (e2 8 (by omega)) (e2 12 (by omega)) hf
/-- both polls, held now -/
theorem polls {LR : LRT} {fav : FavT} {ab : AbsT} (L : LawF LR fav ab) {σ μ ν : St} {n : Nat} (hR : RR LR σ μ) (hV : RVd (vd σ 44) (μ 1) n) (hW : WFm (μ 1) n) (h1 : ν 1 = μ 1) : (∃ s, q5_hold σ 44 32 = some s ∧ HeldC fav ab σ s (μ 1) n) ∧ ∃ u, q12_looks ν = some u ∧ HeldM fav ab ν u (μ 1) n := ⟨hold_ok L (Or.inl rfl) hV hW hR.2.2.2.2.2, looks_ok L h1 hV.1.2.2 hV.1.1 hW ⟨_, _, _, hR.2.2.2.2.2⟩⟩
theorem op_favour {LR : LRT} {fav : FavT} {ab : AbsT} (L : LawF LR fav ab) : Op_favour (RR LR) := by
  intro σ μ hR p o
  obtain ⟨n, hN, hV, hW⟩ := hR.nn
  have hn := hN.1
  unfold q11_favour q12_favour
  dsimp only [lt]
  rcases one_cases hN p with ⟨h1, h2⟩ | ⟨i, hi, rfl, h1, h2⟩
  · rw [h1, h2]
    exact ⟨(.inl 2, σ), (0, up μ 0 0 1), rfl, by simp only [Bool.false_eq_true, if_false, if_true, up_at, if_pos lt01, Option.bind_some], sx_thr (i := 0) (by decide) (by decide) rfl, hR.t0⟩
  · rcases one_cases hN o with ⟨h3, h4⟩ | ⟨j, hj, rfl, h3, h4⟩
    · rw [h1, h2, h3, h4]
      exact ⟨(.inl 2, σ), (0, up μ 0 0 1), rfl, by simp only [Bool.false_eq_true, if_false, if_true, up_at, if_pos lt01, Option.bind_some], sx_thr (i := 0) (by decide) (by decide) rfl, hR.t0⟩
    · rw [h1, h2, h3, h4]
      simp only [Option.bind_some, Bool.false_eq_true, if_false, if_true, up_at, if_neg lt0]
      obtain ⟨s, es, f1, f2⟩ := L.2.1 (Or.inl rfl) hV hW hR.2.2.2.2.2 hi hj
      obtain ⟨u, eu, g1, g2, g3, g4⟩ := L.1 (ν := up μ 0 0 0) (p := i) (o := j) (by rw [up0_1]; exact ⟨_, _, _, hR.2.2.2.2.2⟩) (by rw [up0_1]; exact hN.2.2) hn (by rw [up0_1]; exact hW) hi hj
      rw [up0_1] at eu
      rw [eu]
      refine ⟨(.inr (fav (μ 1) i j), s), (fav (μ 1) i j, u), ?_, rfl, sx_ok (by rw [g2 0 (by omega), up_at]), ?_⟩
      · show Option.bind (q2_favourOf σ 32 44 (nI i) (nI j)) _ = _
        rw [es]
        rfl
      · exact (hR.t0.fvC f1 f2).fvM g1 g2 g4
theorem op_count {LR : LRT} {fav : FavT} {ab : AbsT} (L : LawF LR fav ab) (hl : ∀ {a b : Int32} {c : Nat → Int32} {x y : Int32} {t : Nat → Int32}, LR a b c x y t → b = x) : Op_count (RR LR) := by
  intro σ μ hR x
  obtain ⟨n, ⟨hn, h8, h3⟩, hV, hW⟩ := hR.nn
  obtain ⟨n1, n2, n3, n4, n5, n6⟩ := hV.2.2.2.2.2.1
  obtain ⟨⟨s, es, hC⟩, u, eu, hM⟩ := polls (ν := up μ 0 0 0) L hR hV hW up0_1
  have hRs : RR LR s (up μ 0 0 0) := (hR.heldC hC).t0
  have u1 : u 1 = μ 1 := (hM.2.2.2.1 1 (by decide) (by decide) (by decide)).trans up0_1
  unfold q11_count q12_count q11_pollNow
  dsimp only [lt]
  by_cases w0 : x = 0
  · subst w0
    have e : σ 44 8 = μ 1 3 := h8.trans h3.symm
    exact ⟨(σ 44 8, σ), (μ 1 3, up μ 0 0 0), by rw [if_pos rfl], by rw [if_pos rfl, ag_m (j := 3) (k := 3) rfl (by decide), up0_1]; rfl, e, hR.t0⟩
  by_cases w1 : x = 1
  · subst w1
    have e : σ 44 16 = μ 1 0 := n6
    exact ⟨(σ 44 16, σ), (μ 1 0, up μ 0 0 0), by rw [if_neg (show ¬ (1 : Int32) = 0 by decide), if_pos rfl], by rw [if_neg (show ¬ (1 : Int32) = 0 by decide), if_pos rfl, ag_m (j := 0) (k := 0) rfl (by decide), up0_1]; rfl, e, hR.t0⟩
  by_cases w2 : x = 2
  · subst w2
    have e : σ 32 4 = μ 1 1 := hl hR.2.2.2.2.2
    exact ⟨(σ 32 4, σ), (μ 1 1, up μ 0 0 0), by rw [if_neg (show ¬ (2 : Int32) = 0 by decide), if_neg (show ¬ (2 : Int32) = 1 by decide), if_pos rfl], by rw [if_neg (show ¬ (2 : Int32) = 0 by decide), if_neg (show ¬ (2 : Int32) = 1 by decide), if_pos rfl, ag_m (j := 1) (k := 1) rfl (by decide), up0_1]; rfl, e, hR.t0⟩
  by_cases w3 : x = 3
  · subst w3
    have e : σ 44 12 = μ 1 4 := n2
    exact ⟨(σ 44 12, σ), (μ 1 4, up μ 0 0 0), by rw [if_neg (show ¬ (3 : Int32) = 0 by decide), if_neg (show ¬ (3 : Int32) = 1 by decide), if_neg (show ¬ (3 : Int32) = 2 by decide), if_pos rfl], by rw [if_neg (show ¬ (3 : Int32) = 0 by decide), if_neg (show ¬ (3 : Int32) = 1 by decide), if_neg (show ¬ (3 : Int32) = 2 by decide), if_pos (show q12_isIn 3 3 6 = true by decide), ag_m (k := 4) (by decide) (by decide), up0_1]; rfl, e, hR.t0⟩
  by_cases w4 : x = 4
  · subst w4
    have e : σ 44 11 = μ 1 5 := n1
    exact ⟨(σ 44 11, σ), (μ 1 5, up μ 0 0 0), by rw [if_neg (show ¬ (4 : Int32) = 0 by decide), if_neg (show ¬ (4 : Int32) = 1 by decide), if_neg (show ¬ (4 : Int32) = 2 by decide), if_neg (show ¬ (4 : Int32) = 3 by decide), if_pos rfl], by rw [if_neg (show ¬ (4 : Int32) = 0 by decide), if_neg (show ¬ (4 : Int32) = 1 by decide), if_neg (show ¬ (4 : Int32) = 2 by decide), if_pos (show q12_isIn 4 3 6 = true by decide), ag_m (k := 5) (by decide) (by decide), up0_1]; rfl, e, hR.t0⟩
  by_cases w5 : x = 5
  · subst w5
    have e : σ 44 13 = μ 1 6 := n3
    exact ⟨(σ 44 13, σ), (μ 1 6, up μ 0 0 0), by rw [if_neg (show ¬ (5 : Int32) = 0 by decide), if_neg (show ¬ (5 : Int32) = 1 by decide), if_neg (show ¬ (5 : Int32) = 2 by decide), if_neg (show ¬ (5 : Int32) = 3 by decide), if_neg (show ¬ (5 : Int32) = 4 by decide), if_pos rfl], by rw [if_neg (show ¬ (5 : Int32) = 0 by decide), if_neg (show ¬ (5 : Int32) = 1 by decide), if_neg (show ¬ (5 : Int32) = 2 by decide), if_pos (show q12_isIn 5 3 6 = true by decide), ag_m (k := 6) (by decide) (by decide), up0_1]; rfl, e, hR.t0⟩
  by_cases w6 : x = 6
  · subst w6
    have e : σ 44 14 = μ 1 7 := n4
    exact ⟨(σ 44 14, σ), (μ 1 7, up μ 0 0 0), by rw [if_neg (show ¬ (6 : Int32) = 0 by decide), if_neg (show ¬ (6 : Int32) = 1 by decide), if_neg (show ¬ (6 : Int32) = 2 by decide), if_neg (show ¬ (6 : Int32) = 3 by decide), if_neg (show ¬ (6 : Int32) = 4 by decide), if_neg (show ¬ (6 : Int32) = 5 by decide), if_pos rfl], by rw [if_neg (show ¬ (6 : Int32) = 0 by decide), if_neg (show ¬ (6 : Int32) = 1 by decide), if_neg (show ¬ (6 : Int32) = 2 by decide), if_pos (show q12_isIn 6 3 6 = true by decide), ag_m (k := 7) (by decide) (by decide), up0_1]; rfl, e, hR.t0⟩
  have hin : ¬ q12_isIn x 3 6 = true := fun q => by
    have q := of_decide_eq_true q
    obtain ⟨b, hb, rfl⟩ := nI_of2 (x := x) (M := 6) (n := 6) (by decide) (fun h => absurd (Int32.le_trans q.1 (Int32.le_of_lt h)) (by decide)) q.2
    rcases (show b = 0 ∨ b = 1 ∨ b = 2 ∨ b = 3 ∨ b = 4 ∨ b = 5 ∨ b = 6 by omega) with rfl | rfl | rfl | rfl | rfl | rfl | rfl
    · exact w0 rfl
    · exact w1 rfl
    · exact w2 rfl
    · exact w3 rfl
    · exact w4 rfl
    · exact w5 rfl
    · exact w6 rfl
  rw [if_neg w0, if_neg w1, if_neg w2, if_neg w3, if_neg w4, if_neg w5, if_neg w6, if_neg w0, if_neg w1, if_neg w2, if_neg hin, eu, es]
  simp only [Option.bind_some]
  have hRu : RR LR σ u := hR.t0.heldM hM
  by_cases w7 : x = 7
  · subst w7
    exact ⟨(s 6 9, s), (u 0 20, u), rfl, rfl, hC.2.2.2.1.trans hM.1.symm, hRs.heldM hM⟩
  · rw [if_neg w7, if_neg w7]
    by_cases w8 : x = 8
    · subst w8
      have e : q10_runners σ 44 = u 0 21 := by
        unfold q10_runners
        rw [show σ 44 9 = nI (bs (fS (μ 1)) n) from hV.2.2.1.1, show σ 44 10 = nI (bs (fB (μ 1)) n) from hV.2.2.1.2, run_bs hn, hM.2.1]
        rfl
      exact ⟨(q10_runners σ 44, σ), (u 0 21, u), rfl, rfl, e, hRu⟩
    · rw [if_neg w8, if_neg w8]
      by_cases w9 : x = 9
      · subst w9
        obtain ⟨a, b, e1, e2, e3⟩ := hunAll hV u1
        rw [if_pos rfl, if_pos rfl, e1, e2]
        exact ⟨(a, σ), (b, u), rfl, rfl, e3, hRu⟩
      · rw [if_neg w9, if_neg w9]
        by_cases w10 : x = 10
        · subst w10
          obtain ⟨a, b, e1, e2, e3⟩ := hadAll hV u1
          rw [if_pos rfl, if_pos rfl, e1, e2]
          exact ⟨(a, σ), (b, u), rfl, rfl, e3, hRu⟩
        · rw [if_neg w10, if_neg w10]
          by_cases w11 : x = 11
          · subst w11
            obtain ⟨Lg, f, hLg, hf, l3, l4, l5, l6⟩ := hV.2.2.2.2.2.2.2
            have e : σ (44 + 8) 1 = μ 1 8 := l3.trans l5.symm
            rw [if_pos rfl, if_pos rfl, ag_m (j := 8) (k := 8) rfl (by decide), u1]
            exact ⟨(σ (44 + 8) 1, σ), (μ 1 8, u), rfl, rfl, e, hRu⟩
          · rw [if_neg w11, if_neg w11]
            by_cases w12 : x = 12
            · subst w12
              obtain ⟨A, f, a1, a2, a3, a4, a5, a6⟩ := hR.2.2.2.1
              have e : σ 5 1 = u 0 6 := by rw [hM.2.2.2.2.1 6 (by omega), up_off (by decide), a5]; exact a3
              exact ⟨(σ 5 1, σ), (u 0 6, u), rfl, rfl, e, hRu⟩
            · rw [if_neg w12, if_neg w12]
              exact ⟨(-1, σ), (-1, u), rfl, rfl, rfl, hRu⟩

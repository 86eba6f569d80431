/-! LAYER 2: PERSON -/
theorem op_person {LR : LRT} {fav : FavT} {ab : AbsT} (L : LawF LR fav ab) : Op_person (RR LR) := by
  intro σ μ hR p x
  obtain ⟨n, hN, hV, hW⟩ := hR.nn
  have hn := hN.1
  obtain ⟨⟨s, es, hC⟩, u, eu, hM⟩ := polls (ν := up μ 0 0 0) L hR hV hW up0_1
  have u1 : u 1 = μ 1 := (hM.2.2.2.1 1 (by decide) (by decide) (by decide)).trans up0_1
  have u00 : u 0 0 = 0 := by rw [hM.2.2.2.2.1 0 (by omega), up_at]
  have hRR : RR LR s u := ((hR.heldC hC).t0).heldM hM
  have hRu : RR LR σ u := hR.t0.heldM hM
  have hL : ∃ a b c, LR a b c (μ 1 1) (μ 1 2) (fun k => μ 1 (352 + k)) := ⟨_, _, _, hR.2.2.2.2.2⟩
  unfold q11_person q12_person q11_pollNow
  dsimp only [lt]
  rcases one_cases hN p with ⟨h1, h2⟩ | ⟨i, hi, rfl, h1, h2⟩
  · rw [h1, h2]
    exact ⟨(.inl 2, σ), (0, up μ 0 0 1), rfl, by simp only [Bool.false_eq_true, not_false_eq_true, if_true, up_at, if_pos lt01, Option.bind_some], sx_thr (i := 0) (by decide) (by decide) rfl, hR.t0⟩
  rw [h1, h2]
  simp only [not_true_eq_false, if_false, Option.bind_some]
  show ∃ r1 r2, _ = some r1 ∧ _
  by_cases w0 : x = 0
  · subst w0
    rw [if_neg (show ¬ ¬ q12_isIn 0 0 13 = true by decide), up_at, if_neg lt0]
    rw [if_pos rfl]
    rw [if_pos (show (0 : Int32) < 7 by decide)]
    rw [hV.h1 hi, of0 (by omega), up0_1]
    exact ⟨_, _, rfl, rfl, sx_ok up_at, hR.t0⟩
  by_cases w1 : x = 1
  · subst w1
    rw [if_neg (show ¬ ¬ q12_isIn 1 0 13 = true by decide), up_at, if_neg lt0]
    rw [if_neg (show ¬ (1 : Int32) = 0 by decide), if_pos rfl]
    rw [if_pos (show (1 : Int32) < 7 by decide)]
    rw [hV.h2 hi, of1 (by omega), up0_1]
    exact ⟨_, _, rfl, rfl, sx_ok up_at, hR.t0⟩
  by_cases w2 : x = 2
  · subst w2
    rw [if_neg (show ¬ ¬ q12_isIn 2 0 13 = true by decide), up_at, if_neg lt0]
    rw [if_neg (show ¬ (2 : Int32) = 0 by decide), if_neg (show ¬ (2 : Int32) = 1 by decide), if_pos rfl]
    rw [if_pos (show (2 : Int32) < 7 by decide)]
    rw [hV.h3 hi, of2 (by omega), up0_1]
    exact ⟨_, _, rfl, rfl, sx_ok up_at, hR.t0⟩
  by_cases w3 : x = 3
  · subst w3
    rw [if_neg (show ¬ ¬ q12_isIn 3 0 13 = true by decide), up_at, if_neg lt0]
    rw [if_neg (show ¬ (3 : Int32) = 0 by decide), if_neg (show ¬ (3 : Int32) = 1 by decide), if_neg (show ¬ (3 : Int32) = 2 by decide), if_pos rfl]
    rw [if_pos (show (3 : Int32) < 7 by decide)]
    rw [hV.hs hi, of3 (by omega), up0_1]
    rcases wS hW hi with ⟨a1, a2⟩ | ⟨a1, a2⟩
    · rw [a1, a2]
      exact ⟨_, _, rfl, rfl, sx_ok up_at, hR.t0⟩
    · rw [a1, a2]
      exact ⟨_, _, rfl, rfl, sx_ok up_at, hR.t0⟩
  by_cases w4 : x = 4
  · subst w4
    rw [if_neg (show ¬ ¬ q12_isIn 4 0 13 = true by decide), up_at, if_neg lt0]
    rw [if_neg (show ¬ (4 : Int32) = 0 by decide), if_neg (show ¬ (4 : Int32) = 1 by decide), if_neg (show ¬ (4 : Int32) = 2 by decide), if_neg (show ¬ (4 : Int32) = 3 by decide), if_pos rfl]
    rw [if_pos (show (4 : Int32) < 7 by decide)]
    rw [hV.hb hi, of4 (by omega), up0_1]
    rcases wB hW hi with ⟨a1, a2⟩ | ⟨a1, a2⟩
    · rw [a1, a2]
      exact ⟨_, _, rfl, rfl, sx_ok up_at, hR.t0⟩
    · rw [a1, a2]
      exact ⟨_, _, rfl, rfl, sx_ok up_at, hR.t0⟩
  by_cases w5 : x = 5
  · subst w5
    rw [if_neg (show ¬ ¬ q12_isIn 5 0 13 = true by decide), up_at, if_neg lt0]
    rw [if_neg (show ¬ (5 : Int32) = 0 by decide), if_neg (show ¬ (5 : Int32) = 1 by decide), if_neg (show ¬ (5 : Int32) = 2 by decide), if_neg (show ¬ (5 : Int32) = 3 by decide), if_neg (show ¬ (5 : Int32) = 4 by decide), if_pos rfl]
    rw [if_pos (show (5 : Int32) < 7 by decide)]
    rw [hV.h4 hi, of5 (by omega), up0_1]
    exact ⟨_, _, rfl, rfl, sx_ok up_at, hR.t0⟩
  by_cases w6 : x = 6
  · subst w6
    rw [if_neg (show ¬ ¬ q12_isIn 6 0 13 = true by decide), up_at, if_neg lt0]
    rw [if_neg (show ¬ (6 : Int32) = 0 by decide), if_neg (show ¬ (6 : Int32) = 1 by decide), if_neg (show ¬ (6 : Int32) = 2 by decide), if_neg (show ¬ (6 : Int32) = 3 by decide), if_neg (show ¬ (6 : Int32) = 4 by decide), if_neg (show ¬ (6 : Int32) = 5 by decide), if_pos rfl]
    rw [if_pos (show (6 : Int32) < 7 by decide)]
    rw [hV.h5 hi, of6 (by omega), up0_1]
    exact ⟨_, _, rfl, rfl, sx_ok up_at, hR.t0⟩
  by_cases w7 : x = 7
  · subst w7
    rw [if_neg (show ¬ ¬ q12_isIn 7 0 13 = true by decide), up_at, if_neg lt0]
    rw [if_neg (show ¬ (7 : Int32) = 0 by decide), if_neg (show ¬ (7 : Int32) = 1 by decide), if_neg (show ¬ (7 : Int32) = 2 by decide), if_neg (show ¬ (7 : Int32) = 3 by decide), if_neg (show ¬ (7 : Int32) = 4 by decide), if_neg (show ¬ (7 : Int32) = 5 by decide), if_neg (show ¬ (7 : Int32) = 6 by decide), if_pos rfl]
    rw [if_neg (show ¬ (7 : Int32) < 7 by decide), eu]
    simp only [Option.bind_some, if_true]
    rw [es]
    obtain ⟨r, er, hr⟩ := rankAt_ok 0 hn hC hi
    obtain ⟨r', er', hr'⟩ := voteOf_ok L hn hW hN.2.2 u1 hL hM hi
    have e : r = r' := VO_eq hr hr'
    subst e
    show ∃ r1 r2, Option.bind (q5_rankAt s (nI i) 0) _ = some r1 ∧ _
    rw [er, er']
    exact ⟨_, _, rfl, rfl, sx_ok u00, hRR⟩
  by_cases w8 : x = 8
  · subst w8
    rw [if_neg (show ¬ ¬ q12_isIn 8 0 13 = true by decide), up_at, if_neg lt0]
    rw [if_neg (show ¬ (8 : Int32) = 0 by decide), if_neg (show ¬ (8 : Int32) = 1 by decide), if_neg (show ¬ (8 : Int32) = 2 by decide), if_neg (show ¬ (8 : Int32) = 3 by decide), if_neg (show ¬ (8 : Int32) = 4 by decide), if_neg (show ¬ (8 : Int32) = 5 by decide), if_neg (show ¬ (8 : Int32) = 6 by decide), if_neg (show ¬ (8 : Int32) = 7 by decide), if_pos rfl]
    rw [if_neg (show ¬ (8 : Int32) < 7 by decide), eu]
    simp only [Option.bind_some, if_true]
    rw [if_neg (show ¬ (8 : Int32) = 7 by decide)]
    rw [es, hM.2.1, votesAt_ok L 0 hn hW hN.2.2 u1 hL hM hi]
    show ∃ r1 r2, Option.bind (q5_votesOf s (nI i)) _ = some r1 ∧ _
    rw [votesOf_ok hn hC hi]
    exact ⟨_, _, rfl, rfl, sx_ok u00, hRR⟩
  by_cases w9 : x = 9
  · subst w9
    rw [if_neg (show ¬ ¬ q12_isIn 9 0 13 = true by decide), up_at, if_neg lt0]
    rw [if_neg (show ¬ (9 : Int32) = 0 by decide), if_neg (show ¬ (9 : Int32) = 1 by decide), if_neg (show ¬ (9 : Int32) = 2 by decide), if_neg (show ¬ (9 : Int32) = 3 by decide), if_neg (show ¬ (9 : Int32) = 4 by decide), if_neg (show ¬ (9 : Int32) = 5 by decide), if_neg (show ¬ (9 : Int32) = 6 by decide), if_neg (show ¬ (9 : Int32) = 7 by decide), if_neg (show ¬ (9 : Int32) = 8 by decide), if_pos rfl]
    rw [if_neg (show ¬ (9 : Int32) < 7 by decide), eu]
    simp only [Option.bind_some, if_true]
    rw [if_neg (show ¬ (9 : Int32) = 7 by decide), if_neg (show ¬ (9 : Int32) = 8 by decide)]
    rw [es, points12 L hn hW hN.2.2 u1 hL hM hi]
    show ∃ r1 r2, Option.bind (q5_pointsOf s (nI i)) _ = some r1 ∧ _
    rw [points11 hn hC hi]
    exact ⟨_, _, rfl, rfl, sx_ok u00, hRR⟩
  by_cases w10 : x = 10
  · subst w10
    rw [if_neg (show ¬ ¬ q12_isIn 10 0 13 = true by decide), up_at, if_neg lt0]
    rw [if_neg (show ¬ (10 : Int32) = 0 by decide), if_neg (show ¬ (10 : Int32) = 1 by decide), if_neg (show ¬ (10 : Int32) = 2 by decide), if_neg (show ¬ (10 : Int32) = 3 by decide), if_neg (show ¬ (10 : Int32) = 4 by decide), if_neg (show ¬ (10 : Int32) = 5 by decide), if_neg (show ¬ (10 : Int32) = 6 by decide), if_neg (show ¬ (10 : Int32) = 7 by decide), if_neg (show ¬ (10 : Int32) = 8 by decide), if_neg (show ¬ (10 : Int32) = 9 by decide), if_pos rfl]
    rw [if_neg (show ¬ (10 : Int32) < 7 by decide), eu]
    simp only [Option.bind_some, if_true]
    rw [if_neg (show ¬ (10 : Int32) = 7 by decide), if_neg (show ¬ (10 : Int32) = 8 by decide), if_neg (show ¬ (10 : Int32) = 9 by decide)]
    rw [es, duels12 L hn hW hN.2.2 u1 hL hM hi]
    show ∃ r1 r2, Option.bind (q5_duelsOf s (nI i)) _ = some r1 ∧ _
    rw [duels11 hn hC hi]
    exact ⟨_, _, rfl, rfl, sx_ok u00, hRR⟩
  by_cases w11 : x = 11
  · subst w11
    rw [if_neg (show ¬ ¬ q12_isIn 11 0 13 = true by decide), up_at, if_neg lt0]
    rw [if_neg (show ¬ (11 : Int32) = 0 by decide), if_neg (show ¬ (11 : Int32) = 1 by decide), if_neg (show ¬ (11 : Int32) = 2 by decide), if_neg (show ¬ (11 : Int32) = 3 by decide), if_neg (show ¬ (11 : Int32) = 4 by decide), if_neg (show ¬ (11 : Int32) = 5 by decide), if_neg (show ¬ (11 : Int32) = 6 by decide), if_neg (show ¬ (11 : Int32) = 7 by decide), if_neg (show ¬ (11 : Int32) = 8 by decide), if_neg (show ¬ (11 : Int32) = 9 by decide), if_neg (show ¬ (11 : Int32) = 10 by decide), if_pos rfl]
    rw [if_neg (show ¬ (11 : Int32) < 7 by decide), eu]
    simp only [Option.bind_some, if_true]
    rw [if_neg (show ¬ (11 : Int32) = 7 by decide), if_neg (show ¬ (11 : Int32) = 8 by decide), if_neg (show ¬ (11 : Int32) = 9 by decide), if_neg (show ¬ (11 : Int32) = 10 by decide)]
    unfold q11_needed q11_pollNow
    rw [es, hM.2.1, isOf_isIn, isIn_bs hn hi]
    obtain ⟨y, s', e1, e2, e3, e4⟩ := won_ok L hn hW hN.2.2 u1 hL hC hM hi
    show ∃ r1 r2, Option.bind (Option.bind (q5_wonOver s (nI i)) _) _ = some r1 ∧ _
    rw [e1]
    rcases e4 with ⟨hr, rfl⟩ | ⟨hr, hx⟩
    · rw [hr]
      exact ⟨(.inr (-1), s'), (-1, u), rfl, rfl, sx_ok u00, hRR.s10 e3⟩
    · rw [hr, hx]
      simp only [if_true, Option.bind_some]
      rcases e2 with rfl | ⟨j, hj, rfl⟩
      · exact ⟨(.inr (-1), s'), (-1, u), rfl, rfl, sx_ok u00, hRR.s10 e3⟩
      · rw [if_neg (nI_m1 (by omega)), if_pos (nI_m1 (by omega)), bits_ok hj]
        exact ⟨(.inr (bcount (nI j)), s'), (bcount (nI j), u), rfl, rfl, sx_ok u00, hRR.s10 e3⟩
  by_cases w12 : x = 12
  · subst w12
    rw [if_neg (show ¬ ¬ q12_isIn 12 0 13 = true by decide), up_at, if_neg lt0]
    rw [if_neg (show ¬ (12 : Int32) = 0 by decide), if_neg (show ¬ (12 : Int32) = 1 by decide), if_neg (show ¬ (12 : Int32) = 2 by decide), if_neg (show ¬ (12 : Int32) = 3 by decide), if_neg (show ¬ (12 : Int32) = 4 by decide), if_neg (show ¬ (12 : Int32) = 5 by decide), if_neg (show ¬ (12 : Int32) = 6 by decide), if_neg (show ¬ (12 : Int32) = 7 by decide), if_neg (show ¬ (12 : Int32) = 8 by decide), if_neg (show ¬ (12 : Int32) = 9 by decide), if_neg (show ¬ (12 : Int32) = 10 by decide), if_neg (show ¬ (12 : Int32) = 11 by decide), if_pos rfl]
    rw [if_neg (show ¬ (12 : Int32) < 7 by decide), eu]
    simp only [Option.bind_some, if_true]
    rw [if_neg (show ¬ (12 : Int32) = 7 by decide), if_neg (show ¬ (12 : Int32) = 8 by decide), if_neg (show ¬ (12 : Int32) = 9 by decide), if_neg (show ¬ (12 : Int32) = 10 by decide), if_neg (show ¬ (12 : Int32) = 11 by decide)]
    rw [if_neg (show ¬ (12 : Int32) = 13 by decide)]
    unfold q11_shareOf
    obtain ⟨a, b, e1, e2, rfl⟩ := hadAll (ν := u) hV u1
    rw [e1, e2]
    simp only [Option.bind_some]
    by_cases ha : a = 0
    · rw [if_pos ha, if_pos ha]
      exact ⟨_, _, rfl, rfl, sx_ok u00, hRu⟩
    · rw [if_neg ha, if_neg ha, hV.h4 hi, of5 (by omega), u1]
      simp only [Option.bind_some]
      unfold dv
      rw [if_neg ha, if_neg ha, Int32.mul_comm 100]
      exact ⟨_, _, rfl, rfl, sx_ok u00, hRu⟩
  by_cases w13 : x = 13
  · subst w13
    rw [if_neg (show ¬ ¬ q12_isIn 13 0 13 = true by decide), up_at, if_neg lt0]
    rw [if_neg (show ¬ (13 : Int32) = 0 by decide), if_neg (show ¬ (13 : Int32) = 1 by decide), if_neg (show ¬ (13 : Int32) = 2 by decide), if_neg (show ¬ (13 : Int32) = 3 by decide), if_neg (show ¬ (13 : Int32) = 4 by decide), if_neg (show ¬ (13 : Int32) = 5 by decide), if_neg (show ¬ (13 : Int32) = 6 by decide), if_neg (show ¬ (13 : Int32) = 7 by decide), if_neg (show ¬ (13 : Int32) = 8 by decide), if_neg (show ¬ (13 : Int32) = 9 by decide), if_neg (show ¬ (13 : Int32) = 10 by decide), if_neg (show ¬ (13 : Int32) = 11 by decide), if_neg (show ¬ (13 : Int32) = 12 by decide), if_pos rfl]
    rw [if_neg (show ¬ (13 : Int32) < 7 by decide), eu]
    simp only [Option.bind_some, if_true]
    rw [if_neg (show ¬ (13 : Int32) = 7 by decide), if_neg (show ¬ (13 : Int32) = 8 by decide), if_neg (show ¬ (13 : Int32) = 9 by decide), if_neg (show ¬ (13 : Int32) = 10 by decide), if_neg (show ¬ (13 : Int32) = 11 by decide)]
    obtain ⟨y, -, e1, e2⟩ := pass_ok (ν := u) hV hW u1 hi
    rw [e1, e2]
    exact ⟨_, _, rfl, rfl, sx_ok u00, hRu⟩
  have hin : ¬ q12_isIn x 0 13 = true := fun q => by
    have q := of_decide_eq_true q
    obtain ⟨b, hb, rfl⟩ := nI_of2 (x := x) (M := 13) (n := 13) (by decide) (fun h => Int32.lt_irrefl (Int32.lt_of_lt_of_le h q.1)) q.2
    rcases (show b = 0 ∨ b = 1 ∨ b = 2 ∨ b = 3 ∨ b = 4 ∨ b = 5 ∨ b = 6 ∨ b = 7 ∨ b = 8 ∨ b = 9 ∨ b = 10 ∨ b = 11 ∨ b = 12 ∨ b = 13 by omega) with rfl | rfl | rfl | rfl | rfl | rfl | rfl | rfl | rfl | rfl | rfl | rfl | rfl | rfl
    · exact w0 rfl
    · exact w1 rfl
    · exact w2 rfl
    · exact w3 rfl
    · exact w4 rfl
    · exact w5 rfl
    · exact w6 rfl
    · exact w7 rfl
    · exact w8 rfl
    · exact w9 rfl
    · exact w10 rfl
    · exact w11 rfl
    · exact w12 rfl
    · exact w13 rfl
  rw [if_neg w0, if_neg w1, if_neg w2, if_neg w3, if_neg w4, if_neg w5, if_neg w6, if_neg w7, if_neg w8, if_neg w9, if_neg w10, if_neg w11, if_neg w12, if_neg w13]
  rw [if_pos hin]
  exact ⟨(.inl 4, σ), (0, up μ 0 0 2), rfl, by simp only [up_at, if_pos (show (0 : Int32) < 2 by decide)], sx_thr (i := 1) (by decide) (by decide) rfl, hR.t0⟩

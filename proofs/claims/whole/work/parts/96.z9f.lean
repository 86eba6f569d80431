/-! LAYER 2: BALLOTS, SURE, ASK -/
theorem ball_ok {LR : LRT} {fav : FavT} {ab : AbsT} (L : LawF LR fav ab) {σ μ : St} {n : Nat} (hR : RR LR σ μ) (hV : RVd (vd σ 44) (μ 1) n) (hW : WFm (μ 1) n) : ∃ (b : Bool) (s u : St) (W : Nat) (P : Nat → Nat → Nat), q11_hearBallots σ = some (b, s) ∧ q12_heard μ = some (b, u) ∧ RR LR s u ∧ RR LR s (up μ 0 8 0) ∧ s 44 8 = nI n ∧ u 1 3 = nI n ∧ u 0 20 = nI (bs (fVt ab (μ 1)) n) ∧ W ≤ 46656 ∧ (b = true → s 21 5 = nI n ∧ s 21 6 = nI (bs (fVt ab (μ 1)) n) ∧ s 21 8 = nI W ∧ u 0 32 = nI W ∧ ∀ p o, p < n → o < n → fVt ab (μ 1) p = true → (0 < W → q7_partOf s (nI p) (nI o) = some (nI (P p o))) ∧ u 14 (7 * p + o) = nI (P p o) ∧ P p o ≤ W ∧ ∀ o', o' < n → o' ≠ o → P p o + P p o' ≤ W) := by
  have hn := hV.1.1
  have h3 : μ 1 3 = nI n := hV.1.2.2
  obtain ⟨t, ht, t1, t2, t3⟩ := id hR.2.1
  have u1' : up μ 0 8 0 1 = μ 1 := up_pl (by decide)
  obtain ⟨⟨s0, es0, hC⟩, u0, eu0, hM⟩ := polls (ν := up μ 0 8 0) L hR hV hW u1'
  have u01 : u0 1 = μ 1 := (hM.2.2.2.1 1 (by decide) (by decide) (by decide)).trans u1'
  have hb2 : ∀ k, k < t → s0 2 k = nI (σ 2 k).toNatClampNeg ∧ (σ 2 k).toNatClampNeg ≤ 255 := fun k hk => by
    rw [hC.2.2.2.2.2.1 2 (by omega) (by decide) (by decide) (by decide)]
    exact inR_n (by decide) (t3 k hk).2
  have hb5 : ∀ k, k < t → u0 5 k = nI (σ 2 k).toNatClampNeg ∧ (σ 2 k).toNatClampNeg ≤ 255 := fun k hk => by
    rw [hM.2.2.2.1 5 (by decide) (by decide) (by decide), up_pl (by decide), ← (t3 k hk).1]
    exact inR_n (by decide) (t3 k hk).2
  obtain ⟨⟨b, s1⟩, es1, f1, f2, f3⟩ := hear_ok (V := fVt ab (μ 1)) (s := s0) (m := μ 1) (Bt := fun k => (σ 2 k).toNatClampNeg) (n := n) (t := t) (hV.mv (fun j hj => hC.2.2.2.2.2.1 _ (by omega) (by omega) (by omega) (by omega))) hC.2.2.2.1 hC.2.1 (by rw [hC.2.2.2.2.2.1 1 (by omega) (by decide) (by decide) (by decide)]; exact t1) ht hb2
  obtain ⟨⟨b', u⟩, eu, g1, g2, g3, g4⟩ := heard_ok (V := fVt ab (μ 1)) (μ := μ) (u := u0) (m := μ 1) (Bt := fun k => (σ 2 k).toNatClampNeg) (n := n) (t := t) hn h3 t2 eu0 u01 hM.1 hM.2.1 ht hb5
  dsimp only at f1 f2 f3 g1 g2 g3 g4
  have ebb : b' = b := by
    have h : b' = true ↔ b = true := g3.trans f2.symm
    cases b <;> cases b' <;> first | rfl | exact absurd (h.mp rfl) (by decide) | exact absurd (h.mpr rfl) (by decide)
  subst ebb
  have hRt : RR LR (up σ 1 1 0) (up μ 0 8 0) := hR.text ⟨0, Nat.zero_le _, up_at, up_at, fun k hk => absurd hk (Nat.not_lt_zero _)⟩ (fun i h1 _ => up_pl h1) (fun i h0 _ => up_pl h0) (up_off (by decide)) (up_off (by decide)) (up_off (by decide)) (fun q => q.eq (up_off (by decide)) (up_off (by decide)) (up_off (by decide)))
  have hRs : RR LR (up s1 1 1 0) (up μ 0 8 0) := by
    refine hRt.sC (fun i hi => ?_) ?_ ?_ ?_
    · rw [up_pl (by unfold keepC at hi; omega), up_pl (by unfold keepC at hi; omega), f1 i (by unfold keepC at hi; omega)]
      exact hC.2.2.2.2.2.1 i (by unfold keepC at hi; omega) (by unfold keepC at hi; omega) (by unfold keepC at hi; omega) (by unfold keepC at hi; omega)
    · rw [up_at, up_at]
    · rw [up_pl (by decide), up_pl (by decide), f1 32 (by omega)]; exact hC.2.2.2.2.2.2 3 (by decide) (by decide)
    · rw [up_pl (by decide), up_pl (by decide), f1 32 (by omega)]; exact hC.2.2.2.2.2.2 4 (by decide) (by decide)
  have hRu : RR LR (up s1 1 1 0) u := (hRs.heldM hM).sM (g1 1 (by decide) (by decide) (by decide) (by decide)) (g1 2 (by decide) (by decide) (by decide) (by decide)) (g1 4 (by decide) (by decide) (by decide) (by decide)) (g1 5 (by decide) (by decide) (by decide) (by decide)) (g2 3 (by decide)) (g2 6 (by decide)) (g2 8 (by decide)) (g2 12 (by decide)) (fun q => q.eq (g2 15 (by decide)) (g2 16 (by decide)) (g2 18 (by decide)))
  have hvc : vc (fVt ab (μ 1)) n 0 = cn (fVt ab (μ 1)) n := by
    have := vc_cn (V := fVt ab (μ 1)) n 0
    rw [Nat.zero_add] at this
    have c0 : cn (fVt ab (μ 1)) 0 = 0 := rfl
    omega
  have hp2 := pw_le (V := fVt ab (μ 1)) hn n (Nat.le_refl _)
  have hWle : ∀ ok, bW (fVt ab (μ 1)) ok (finP (fun k => (σ 2 k).toNatClampNeg) (t / 2)) n n 0 (fun _ => 0) ≤ 46656 := fun ok => by
    have := bW_le (V := fVt ab (μ 1)) (ok := ok) (fin := finP (fun k => (σ 2 k).toNatClampNeg) (t / 2)) (n := n) n 0 (fun _ => 0)
    rw [hvc] at this
    omega
  refine ⟨b', up s1 1 1 0, u, bW (fVt ab (μ 1)) (okB (μ 1)) (finP (fun k => (σ 2 k).toNatClampNeg) (t / 2)) n n 0 (fun _ => 0), fun p o => bW (fVt ab (μ 1)) (okM (okB (μ 1)) p o) (finP (fun k => (σ 2 k).toNatClampNeg) (t / 2)) n n 0 (fun _ => 0), ?_, eu, hRu, hRs, ?_, ?_, ?_, hWle _, fun hb => ?_⟩
  · unfold q11_hearBallots q11_pollNow
    dsimp only [lt]
    rw [es0]
    simp only [Option.bind_some]
    rw [es1]
    rfl
  · rw [up_pl (by decide), f1 44 (by omega), hC.2.2.2.2.2.1 44 (by omega) (by decide) (by decide) (by decide)]; exact hV.1.2.1
  · rw [g1 1 (by decide) (by decide) (by decide) (by decide), u01]; exact h3
  · rw [g2 20 (by decide)]; exact hM.1
  · have hG := f2.mp hb
    obtain ⟨a1, a2, a3, a4⟩ := f3 hG
    obtain ⟨c1, c2⟩ := g4 hG
    have s21 : up s1 1 1 0 21 = s1 21 := up_pl (by decide)
    refine ⟨by rw [s21]; exact a1, by rw [s21]; exact a2, by rw [s21]; exact a3, c1, fun p o hp ho hVp => ⟨fun h0 => a4 h0 _ (fun i h1 h2 => up_pl (by omega)) p o hp ho hVp, c2 p o hp ho hVp, ?_, fun o' ho' hne => ?_⟩⟩
    · dsimp only
      rw [← bG_W, ← bG_W]
      refine smLe (fun code _ => ?_)
      rw [bG_mark hVp n 0 code _ (Nat.zero_le _) (by omega)]
      cases bG (fVt ab (μ 1)) (okB (μ 1)) (finP (fun k => (σ 2 k).toNatClampNeg) (t / 2)) n n 0 code (fun _ => 0) with
      | false => exact Nat.le_refl _
      | true =>
        rw [if_pos rfl]
        split <;> omega
    · dsimp only
      rw [← bG_W, ← bG_W, ← bG_W, ← sm_add]
      refine smLe (fun code _ => ?_)
      rw [bG_mark hVp n 0 code _ (Nat.zero_le _) (by omega), bG_mark hVp n 0 code _ (Nat.zero_le _) (by omega)]
      cases bG (fVt ab (μ 1)) (okB (μ 1)) (finP (fun k => (σ 2 k).toNatClampNeg) (t / 2)) n n 0 code (fun _ => 0) with
      | false => exact Nat.le_refl _
      | true =>
        rw [if_pos (show true = true from rfl), Bool.true_and, Bool.true_and]
        by_cases e1 : vdg (fVt ab (μ 1)) n p n 0 code = o
        · rw [decide_eq_true e1, decide_eq_false (fun e2 => hne (e2.symm.trans e1)), if_pos rfl, if_neg (by decide)]
          exact Nat.le_refl _
        · rw [decide_eq_false e1, if_neg (by decide)]
          split <;> omega
theorem need_ok (b : Bool) : q11_needBallots b = if b = true then none else some 0 := by
  unfold q11_needBallots
  cases b <;> rfl
theorem op_ballots {LR : LRT} {fav : FavT} {ab : AbsT} (L : LawF LR fav ab) : Op_ballots (RR LR) := by
  intro σ μ hR
  obtain ⟨n, hN, hV, hW⟩ := hR.nn
  obtain ⟨b, s, u, W, P, e1, e2, r1, r2, q1, q2, q3, q4, q5⟩ := ball_ok L hR hV hW
  unfold q11_ballots q12_ballots
  dsimp only [lt]
  rw [e1, e2]
  simp only [Option.bind_some]
  rw [need_ok]
  cases b with
  | false =>
    exact ⟨(.inl 0, s), (0, up u 0 0 1), rfl, by simp only [Bool.false_eq_true, if_false, Option.bind_some, up_at, if_pos lt01], sx_thr (i := 0) (by decide) (by decide) rfl, r1.t0⟩
  | true =>
    obtain ⟨a1, a2, a3, a4, -⟩ := q5 rfl
    simp only [if_true, Option.bind_some, up_at, if_neg lt0]
    refine ⟨(.inr (imin 9999 (nI W)), s), (q12_lesser 9999 (nI W), up u 0 0 0), ?_, ?_, ?_, r1.t0⟩
    · rw [thn_n, a3]
    · rw [up_off (by decide), a4]
    · rw [imin_le]
      exact sx_ok up_at
theorem op_sure {LR : LRT} {fav : FavT} {ab : AbsT} (L : LawF LR fav ab) : Op_sure (RR LR) := by
  intro σ μ hR x
  obtain ⟨n, hN, hV, hW⟩ := hR.nn
  have hn := hN.1
  obtain ⟨b, s, u, W, P, e1, e2, r1, r2, q1, q2, q3, q4, q5⟩ := ball_ok L hR hV hW
  unfold q11_sure q12_sure
  dsimp only [lt]
  rw [e1, e2]
  simp only [Option.bind_some]
  rw [need_ok]
  have hN' : NN s μ n := ⟨hn, q1, hV.1.2.2⟩
  rcases one_cases hN' x with ⟨g1, g2⟩ | ⟨p, hp, rfl, g1, g2⟩
  · rw [g1, g2]
    exact ⟨(.inl 2, s), (0, up (up μ 0 8 0) 0 0 1), rfl, rfl, sx_thr (i := 0) (by decide) (by decide) rfl, r2.t0⟩
  · rw [g1, g2]
    simp only [Option.bind_some, not_true_eq_false, if_false]
    rw [thn_n]
    cases b with
    | false =>
      exact ⟨(.inl 0, s), (0, up u 0 0 2), rfl, by simp only [Bool.false_eq_true, if_false, Option.bind_some, up_at, if_pos lt02, if_pos (Or.inl (Or.inl lt02))], sx_thr (i := 1) (by decide) (by decide) rfl, r1.t0⟩
    | true =>
      obtain ⟨a1, a2, a3, a4, a5⟩ := q5 rfl
      simp only [if_true, Option.bind_some, up_at, if_neg lt0]
      rw [thn_n, up_off (show (32 : Nat) ≠ 0 by decide), up_off (show (20 : Nat) ≠ 0 by decide), a4, q3, isOf_isIn, isIn_bs hn hp]
      unfold q7_sureOf
      dsimp only [lt]
      rw [a1, a2, a3, isIn_bs hn hp]
      have eW0 : nI W = 0 ↔ W = 0 := nI_0i (by omega)
      have h00 : up u 0 0 0 0 0 = 0 := up_at
      by_cases hc : W = 0 ∨ ¬ fVt ab (μ 1) p = true
      · rw [if_pos (show nI W = 0 ∨ ¬ fVt ab (μ 1) p = true from hc.imp (fun h => eW0.mpr h) id), if_pos (show (0 < (0 : Int32) ∨ nI W = 0) ∨ ¬ fVt ab (μ 1) p = true from hc.elim (fun h => Or.inl (Or.inr (eW0.mpr h))) Or.inr)]
        exact ⟨(.inr (-1), s), (-1, up u 0 0 0), rfl, rfl, sx_ok h00, r1.t0⟩
      · rw [if_neg (show ¬ (nI W = 0 ∨ ¬ fVt ab (μ 1) p = true) from fun q => hc (q.imp (fun h => eW0.mp h) id)), if_neg (show ¬ ((0 < (0 : Int32) ∨ nI W = 0) ∨ ¬ fVt ab (μ 1) p = true) from fun q => q.elim (fun h => h.elim lt0 (fun h => hc (Or.inl (eW0.mp h)))) (fun h => hc (Or.inr h)))]
        have hVp : fVt ab (μ 1) p = true := Classical.byContradiction (fun q => hc (Or.inr q))
        have hW0 : 0 < W := Nat.pos_of_ne_zero (fun q => hc (Or.inl q))
        have u13 : up u 0 0 0 1 3 = nI n := by rw [up_pl (by decide)]; exact q2
        have u14 : ∀ o, o < n → ag (up u 0 0 0) 14 49 (7 * nI p + nI o) = some (nI (P p o)) := fun o ho => by
          rw [ag_nI (ix_7 p o) (by omega) (by decide), up_pl (by decide)]
          exact congrArg some (a5 p o hp ho hVp).2.1
        have hPW : ∀ o, o < n → (nI (P p o) = nI W ↔ P p o = W) := fun o ho => nI_eq (by have := (a5 p o hp ho hVp).2.2.1; omega) (by omega)
        have hun : ∀ o o', o < n → o' < n → P p o = W → P p o' = W → o' = o := fun o o' ho ho' h1 h2 => Classical.byContradiction (fun q => by
          have := (a5 p o hp ho hVp).2.2.2 o' ho' q
          omega)
        have kC : Wo (loop1 (fun rec9_ (r12_ : Int32) =>
  if r12_ < nI n then
  Option.bind (q7_partOf s (nI p) r12_) fun x21_ =>
  if x21_ = nI W then (some (Sum.inl r12_)) else
  rec9_ (r12_ + 1)
  else (some (Sum.inr r12_))) fuelN (0 : Int32)) (fun y => (∃ o, o < n ∧ P p o = W ∧ y = Sum.inl (nI o)) ∨ ((∀ o, o < n → ¬ P p o = W) ∧ ∃ c, y = Sum.inr c)) := by
          refine lpW1 n (fun t r => r = nI t ∧ ∀ o, o < t → ¬ P p o = W) ?_ fuelN 0 _ (Nat.zero_le _) (fuel_ok (by omega)) ⟨rfl, fun o ho => absurd ho (Nat.not_lt_zero _)⟩
          rintro rec t r ht ⟨rfl, hno⟩ IH
          refine wo_ite (fun hlt => ?_) (fun hge => ?_)
          · have htn : t < n := (nI_ltI (by omega) (by omega)).mp hlt
            rw [(a5 p t hp htn hVp).1 hW0]
            simp only [Option.bind_some]
            by_cases hq : P p t = W
            · rw [if_pos ((hPW t htn).mpr hq)]
              exact wo_some (Or.inl ⟨t, htn, hq, rfl⟩)
            · rw [if_neg (fun q => hq ((hPW t htn).mp q)), nI_1]
              refine IH _ htn ⟨rfl, fun o ho => ?_⟩
              by_cases e : o = t
              · subst e; exact hq
              · exact hno o (by omega)
          · have : t = n := by
              have : ¬ t < n := fun q => hge (nI_lt q (by omega))
              omega
            subst this
            exact wo_some (Or.inr ⟨hno, _, rfl⟩)
        have kM : Wo (loop2 (fun rec36_ (found39_ : Int32) (o40_ : Int32) =>
  Option.bind (ag (up u 0 0 0) 1 752 3) fun x45_ =>
  if o40_ < x45_ then
  Option.bind (Option.bind (ag (up u 0 0 0) 14 49 ((7 * nI p) + o40_)) fun x54_ =>
  if x54_ = nI W then (some (o40_)) else (some (found39_))) fun y49_ =>
  rec36_ y49_ (o40_ + 1)
  else (some (found39_, o40_))) fuelN (-1 : Int32) (0 : Int32)) (fun y => (∃ o, o < n ∧ P p o = W ∧ y.1 = nI o) ∨ ((∀ o, o < n → ¬ P p o = W) ∧ y.1 = -1)) := by
          refine lpW2 n (fun t f r => r = nI t ∧ ((∃ o, o < t ∧ P p o = W ∧ f = nI o) ∨ ((∀ o, o < t → ¬ P p o = W) ∧ f = -1))) ?_ fuelN 0 _ _ (Nat.zero_le _) (fuel_ok (by omega)) ⟨rfl, Or.inr ⟨fun o ho => absurd ho (Nat.not_lt_zero _), rfl⟩⟩
          rintro rec t f r ht ⟨rfl, hf⟩ IH
          rw [ag3, u13]
          simp only [Option.bind_some]
          refine wo_ite (fun hlt => ?_) (fun hge => ?_)
          · have htn : t < n := (nI_ltI (by omega) (by omega)).mp hlt
            rw [u14 t htn]
            simp only [Option.bind_some]
            by_cases hq : P p t = W
            · rw [if_pos ((hPW t htn).mpr hq), nI_1]
              simp only [Option.bind_some]
              exact IH _ _ htn ⟨rfl, Or.inl ⟨t, Nat.lt_succ_self _, hq, rfl⟩⟩
            · rw [if_neg (fun q => hq ((hPW t htn).mp q)), nI_1]
              simp only [Option.bind_some]
              refine IH _ _ htn ⟨rfl, ?_⟩
              rcases hf with ⟨o, o1, o2, o3⟩ | ⟨o1, o2⟩
              · exact Or.inl ⟨o, by omega, o2, o3⟩
              · refine Or.inr ⟨fun o ho => ?_, o2⟩
                by_cases e : o = t
                · subst e; exact hq
                · exact o1 o (by omega)
          · have : t = n := by
              have : ¬ t < n := fun q => hge (nI_lt q (by omega))
              omega
            subst this
            exact wo_some hf
        obtain ⟨y, ey, hy⟩ := kC
        obtain ⟨z, ez, hz⟩ := kM
        rw [ey, ez]
        simp only [Option.bind_some]
        rcases hy with ⟨o, o1, o2, rfl⟩ | ⟨o1, c, rfl⟩
        · rcases hz with ⟨o', p1, p2, p3⟩ | ⟨p1, -⟩
          · have := hun o o' o1 p1 o2 p2
            subst this
            rw [p3]
            exact ⟨(.inr (nI o'), s), (nI o', up u 0 0 0), rfl, rfl, sx_ok h00, r1.t0⟩
          · exact absurd o2 (p1 o o1)
        · rcases hz with ⟨o', p1, p2, -⟩ | ⟨-, p3⟩
          · exact absurd p2 (o1 o' p1)
          · rw [p3]
            exact ⟨(.inr (-1), s), (-1, up u 0 0 0), rfl, rfl, sx_ok h00, r1.t0⟩
def mxP (f : Nat → Nat) : Nat → Nat
  | 0 => 0
  | k + 1 => max (mxP f k) (f k)
theorem mxP_s {f : Nat → Nat} {k : Nat} : mxP f (k + 1) = max (mxP f k) (f k) := rfl
theorem mxP_le {f : Nat → Nat} {M : Nat} : ∀ k, (∀ i, i < k → f i ≤ M) → mxP f k ≤ M
  | 0, _ => Nat.zero_le _
  | k + 1, h => by
    have h1 := mxP_le k (fun i hi => h i (by omega))
    have h2 := h k (Nat.lt_succ_self _)
    rw [mxP_s]
    omega
theorem imax_nI' {a b : Nat} (ha : a < 2 ^ 31) (hb : b < 2 ^ 31) : imax (nI a) (nI b) = nI (max a b) := by
  unfold imax
  have := nI_ltI ha hb
  by_cases h : a < b
  · rw [if_pos (this.mpr h)]
    congr 1
    omega
  · rw [if_neg (fun q => h (this.mp q))]
    congr 1
    omega
theorem gr_ge {a b : Int32} : a ≤ q12_greater a b := by
  rw [← imax_gr]
  unfold imax
  by_cases h : a < b
  · rw [if_pos h]; exact Int32.le_of_lt h
  · rw [if_neg h]; exact Int32.le_refl _
theorem op_ask {LR : LRT} {fav : FavT} {ab : AbsT} (L : LawF LR fav ab) : Op_ask (RR LR) := by
  intro σ μ hR
  obtain ⟨n, hN, hV, hW⟩ := hR.nn
  have hn := hN.1
  obtain ⟨b, s, u, W, P, e1, e2, r1, r2, q1, q2, q3, q4, q5⟩ := ball_ok L hR hV hW
  unfold q11_ask q12_ask
  dsimp only [lt]
  rw [e1, e2]
  simp only [Option.bind_some]
  rw [need_ok]
  cases b with
  | false =>
    exact ⟨(.inl 0, s), (0, up u 0 0 1), rfl, by simp only [Bool.false_eq_true, if_false, Option.bind_some, up_at, if_pos lt01], sx_thr (i := 0) (by decide) (by decide) rfl, r1.t0⟩
  | true =>
    obtain ⟨a1, a2, a3, a4, a5⟩ := q5 rfl
    simp only [if_true, Option.bind_some, up_at, if_neg lt0]
    rw [thn_n]
    unfold q7_bestToAsk
    dsimp only [lt]
    rw [a1, a2, a3, up_off (show (32 : Nat) ≠ 0 by decide), up_off (show (20 : Nat) ≠ 0 by decide), a4, q3]
    have h00 : up u 0 0 0 0 0 = 0 := up_at
    have u13 : up u 0 0 0 1 3 = nI n := by rw [up_pl (by decide)]; exact q2
    have l2 := nI_ltI (a := W) (b := 2) (by omega) (by omega)
    have l1 := nI_ltI (a := 1) (b := W) (by omega) (by omega)
    by_cases hW2 : W < 2
    · rw [if_pos (show nI W < 2 from l2.mpr hW2)]
      have kM : Wo (loop3 (fun rec19_ (found22_ : Int32) (least23_ : Int32) (p24_ : Int32) =>
  Option.bind (ag (up u 0 0 0) 1 752 3) fun x29_ =>
  if (p24_ < x29_) ∧ (1 < nI W) then
  Option.bind (loop2 (fun rec44_ (most47_ : Int32) (o48_ : Int32) =>
  Option.bind (ag (up u 0 0 0) 1 752 3) fun x53_ =>
  if o48_ < x53_ then
  Option.bind (ag (up u 0 0 0) 14 49 ((7 * p24_) + o48_)) fun x57_ =>
  rec44_ (q12_greater most47_ x57_) (o48_ + 1)
  else (some (most47_, o48_))) fuelN (if q12_isOf (nI (bs (fVt ab (μ 1)) n)) p24_ = true then 0 else 2000000000) (0 : Int32)) fun y41_ =>
  if least23_ ≤ y41_.1 then (rec19_ found22_ least23_ (p24_ + 1)) else
  rec19_ p24_ y41_.1 (p24_ + 1)
  else (some (found22_, least23_, p24_))) fuelN (-1 : Int32) (2000000000 : Int32) (0 : Int32)) (fun y => y.1 = -1) := by
        refine lpW3 0 (fun _ f _ _ => f = -1) ?_ fuelN 0 _ _ _ (Nat.zero_le _) (fuel_ok (by omega)) rfl
        rintro rec t f l q _ rfl _
        rw [ag3]
        simp only [Option.bind_some]
        rw [if_neg (fun h => by have := l1.mp h.2; omega)]
        exact wo_some rfl
      obtain ⟨y, ey, hy⟩ := kM
      rw [ey]
      simp only [Option.bind_some]
      rw [hy]
      exact ⟨(.inr (-1), s), (-1, up u 0 0 0), rfl, rfl, sx_ok h00, r1.t0⟩
    · rw [if_neg (show ¬ nI W < 2 from fun q => hW2 (l2.mp q))]
      have hW1 : 1 < nI W := l1.mpr (by omega)
      have u14 : ∀ p o, p < n → o < n → ag (up u 0 0 0) 14 49 (7 * nI p + nI o) = some (u 14 (7 * p + o)) := fun p o hp ho => by
        rw [ag_nI (ix_7 p o) (by omega) (by decide), up_pl (by decide)]
      have key : R2 (loop3 (fun rec8_ (best11_ : Int32) (least12_ : Int32) (v13_ : Int32) =>
  if v13_ < nI n then
  Option.bind (if q11_isIn (nI (bs (fVt ab (μ 1)) n)) v13_ = true then (Option.bind (q7_greatestPart s v13_) fun x26_ =>
  some x26_) else (some (nI W + 1))) fun x20_ =>
  rec8_ (if (q11_isIn (nI (bs (fVt ab (μ 1)) n)) v13_ = true) ∧ ((best11_ = (-1)) ∨ (x20_ < least12_)) then ((v13_, x20_)) else ((best11_, least12_))).1 (if (q11_isIn (nI (bs (fVt ab (μ 1)) n)) v13_ = true) ∧ ((best11_ = (-1)) ∨ (x20_ < least12_)) then ((v13_, x20_)) else ((best11_, least12_))).2 (v13_ + 1)
  else (some (best11_, least12_, v13_))) fuelN (-1 : Int32) (0 : Int32) (0 : Int32)) (loop3 (fun rec19_ (found22_ : Int32) (least23_ : Int32) (p24_ : Int32) =>
  Option.bind (ag (up u 0 0 0) 1 752 3) fun x29_ =>
  if (p24_ < x29_) ∧ (1 < nI W) then
  Option.bind (loop2 (fun rec44_ (most47_ : Int32) (o48_ : Int32) =>
  Option.bind (ag (up u 0 0 0) 1 752 3) fun x53_ =>
  if o48_ < x53_ then
  Option.bind (ag (up u 0 0 0) 14 49 ((7 * p24_) + o48_)) fun x57_ =>
  rec44_ (q12_greater most47_ x57_) (o48_ + 1)
  else (some (most47_, o48_))) fuelN (if q12_isOf (nI (bs (fVt ab (μ 1)) n)) p24_ = true then 0 else 2000000000) (0 : Int32)) fun y41_ =>
  if least23_ ≤ y41_.1 then (rec19_ found22_ least23_ (p24_ + 1)) else
  rec19_ p24_ y41_.1 (p24_ + 1)
  else (some (found22_, least23_, p24_))) fuelN (-1 : Int32) (2000000000 : Int32) (0 : Int32)) (fun a y => a.1 = y.1) := by
        refine lpR33 n (fun t bs_ l p f l' q => p = nI t ∧ q = nI t ∧ f = bs_ ∧ ((bs_ = -1 ∧ l' = 2000000000) ∨ ∃ i x, i < n ∧ bs_ = nI i ∧ x ≤ 46656 ∧ l = nI x ∧ l' = nI x)) ?_ fuelN fuelN 0 _ _ _ _ _ _ (Nat.zero_le _) (fuel_ok (by omega)) (fuel_ok (by omega)) ⟨rfl, rfl, rfl, Or.inl ⟨rfl, rfl⟩⟩
        rintro F G t bst l p f l' q ht ⟨rfl, rfl, rfl, hl⟩ IH
        refine r2_R ag3 ?_
        rw [u13]
        by_cases htn : t < n
        · have hlt : nI t < nI n := nI_lt htn (by omega)
          rw [if_pos (show nI t < nI n ∧ 1 < nI W from ⟨hlt, hW1⟩), if_pos hlt, isOf_isIn, isIn_bs hn htn, nI_1 t]
          cases hVt : fVt ab (μ 1) t with
          | false =>
            simp only [Bool.false_eq_true, if_false, Option.bind_some, false_and]
            have kM : Wo (loop2 (fun rec44_ (most47_ : Int32) (o48_ : Int32) =>
  Option.bind (ag (up u 0 0 0) 1 752 3) fun x53_ =>
  if o48_ < x53_ then
  Option.bind (ag (up u 0 0 0) 14 49 ((7 * nI t) + o48_)) fun x57_ =>
  rec44_ (q12_greater most47_ x57_) (o48_ + 1)
  else (some (most47_, o48_))) fuelN (2000000000 : Int32) (0 : Int32)) (fun y => (2000000000 : Int32) ≤ y.1) := by
              refine lpW2 n (fun o a r => r = nI o ∧ (2000000000 : Int32) ≤ a) ?_ fuelN 0 _ _ (Nat.zero_le _) (fuel_ok (by omega)) ⟨rfl, Int32.le_refl _⟩
              rintro rec o a r ho ⟨rfl, ha⟩ IH2
              rw [ag3, u13]
              simp only [Option.bind_some]
              refine wo_ite (fun hlt => ?_) (fun _ => wo_some ha)
              have hon : o < n := (nI_ltI (by omega) (by omega)).mp hlt
              rw [u14 t o htn hon, nI_1]
              simp only [Option.bind_some]
              exact IH2 _ _ hon ⟨rfl, Int32.le_trans ha gr_ge⟩
            obtain ⟨y, ey, hy⟩ := kM
            rw [ey]
            simp only [Option.bind_some]
            have hle : l' ≤ y.1 := by
              rcases hl with ⟨-, rfl⟩ | ⟨i, x, -, -, hx, -, rfl⟩
              · exact hy
              · exact Int32.le_trans (nI_le (b := 2000000000) (by omega) (by omega)) hy
            rw [if_pos hle]
            exact IH _ _ _ _ _ _ htn ⟨rfl, rfl, rfl, hl⟩
          | true =>
            simp only [if_true, true_and]
            have hPle : ∀ o, o < n → P t o ≤ 46656 := fun o ho => by have := (a5 t o htn ho hVt).2.2.1; omega
            have hmx : ∀ k, k ≤ n → mxP (P t) k ≤ 46656 := fun k hk => mxP_le k (fun i hi => hPle i (by omega))
            have kC : Wo (q7_greatestPart s (nI t)) (fun y => y = nI (mxP (P t) n)) := by
              unfold q7_greatestPart
              dsimp only [lt]
              rw [a1]
              refine wo_bind (wo_mono (Q := fun y => y.1 = nI (mxP (P t) n)) ?_ (fun y hy => wo_some hy))
              refine lpW2 n (fun o a r => r = nI o ∧ a = nI (mxP (P t) o)) ?_ fuelN 0 _ _ (Nat.zero_le _) (fuel_ok (by omega)) ⟨rfl, rfl⟩
              rintro rec o a r ho ⟨rfl, rfl⟩ IH2
              refine wo_ite (fun hlt => ?_) (fun hge => ?_)
              · have hon : o < n := (nI_ltI (by omega) (by omega)).mp hlt
                rw [(a5 t o htn hon hVt).1 (by omega)]
                simp only [Option.bind_some]
                rw [nI_1, imax_nI' (by have := hmx o (by omega); omega) (by have := hPle o hon; omega)]
                exact IH2 _ _ hon ⟨rfl, rfl⟩
              · have : o = n := by
                  have : ¬ o < n := fun q => hge (nI_lt q (by omega))
                  omega
                subst this
                exact wo_some rfl
            have kM : Wo (loop2 (fun rec44_ (most47_ : Int32) (o48_ : Int32) =>
  Option.bind (ag (up u 0 0 0) 1 752 3) fun x53_ =>
  if o48_ < x53_ then
  Option.bind (ag (up u 0 0 0) 14 49 ((7 * nI t) + o48_)) fun x57_ =>
  rec44_ (q12_greater most47_ x57_) (o48_ + 1)
  else (some (most47_, o48_))) fuelN (0 : Int32) (0 : Int32)) (fun y => y.1 = nI (mxP (P t) n)) := by
              refine lpW2 n (fun o a r => r = nI o ∧ a = nI (mxP (P t) o)) ?_ fuelN 0 _ _ (Nat.zero_le _) (fuel_ok (by omega)) ⟨rfl, rfl⟩
              rintro rec o a r ho ⟨rfl, rfl⟩ IH2
              rw [ag3, u13]
              simp only [Option.bind_some]
              refine wo_ite (fun hlt => ?_) (fun hge => ?_)
              · have hon : o < n := (nI_ltI (by omega) (by omega)).mp hlt
                rw [u14 t o htn hon, (a5 t o htn hon hVt).2.1]
                simp only [Option.bind_some]
                rw [nI_1, ← imax_gr, imax_nI' (by have := hmx o (by omega); omega) (by have := hPle o hon; omega)]
                exact IH2 _ _ hon ⟨rfl, rfl⟩
              · have : o = n := by
                  have : ¬ o < n := fun q => hge (nI_lt q (by omega))
                  omega
                subst this
                exact wo_some rfl
            obtain ⟨z, ez, hz⟩ := kC
            obtain ⟨y, ey, hy⟩ := kM
            subst hz
            rw [ez, ey]
            simp only [Option.bind_some]
            rw [hy]
            have hmn := hmx n (Nat.le_refl _)
            rcases hl with ⟨rfl, rfl⟩ | ⟨i, x, hi, rfl, hx, rfl, rfl⟩
            · rw [if_pos (Or.inl rfl), if_neg (show ¬ (2000000000 : Int32) ≤ nI (mxP (P t) n) from fun q => by have := (nI_leI (a := 2000000000) (by omega) (by omega)).mp q; omega)]
              exact IH _ _ _ _ _ _ htn ⟨rfl, rfl, rfl, Or.inr ⟨t, _, htn, rfl, hmn, rfl, rfl⟩⟩
            · have ll := nI_ltI (a := mxP (P t) n) (b := x) (by omega) (by omega)
              have lle := nI_leI (a := x) (b := mxP (P t) n) (by omega) (by omega)
              by_cases hq : mxP (P t) n < x
              · rw [if_pos (Or.inr (ll.mpr hq)), if_neg (fun q => by have := lle.mp q; omega)]
                exact IH _ _ _ _ _ _ htn ⟨rfl, rfl, rfl, Or.inr ⟨t, _, htn, rfl, hmn, rfl, rfl⟩⟩
              · rw [if_neg (fun q => q.elim (nI_m1 (by omega)) (fun h => hq (ll.mp h))), if_pos (lle.mpr (by omega))]
                exact IH _ _ _ _ _ _ htn ⟨rfl, rfl, rfl, Or.inr ⟨i, x, hi, rfl, hx, rfl, rfl⟩⟩
        · have hlt : ¬ nI t < nI n := fun q => htn ((nI_ltI (by omega) (by omega)).mp q)
          rw [if_neg hlt, if_neg (fun q => hlt q.1)]
          exact r2_some rfl
      obtain ⟨a, y, ea, ey, hay⟩ := key
      rw [ea, ey]
      simp only [Option.bind_some]
      rw [hay]
      exact ⟨(.inr y.1, s), (y.1, up u 0 0 0), rfl, rfl, sx_ok h00, r1.t0⟩

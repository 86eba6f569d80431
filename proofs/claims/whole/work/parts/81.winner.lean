/-! LAYER 2: WHO HAS IT -/
theorem lw_in : ∀ x, x < 64 → 0 < x → x.testBit (lw x) = true := by decide +kernel
theorem least_0 : q11_leastOf 0 = some (-1) := by decide +kernel
theorem cn_out {S : Nat → Bool} {i : Nat} (hs : S i = true) : ∀ n, i < n → cn (fun k => S k && !decide (k = i)) n + 1 = cn S n
  | 0, h => absurd h (Nat.not_lt_zero _)
  | n + 1, h => by
    rw [cn_s, cn_s]
    by_cases hin : i = n
    · subst hin
      rw [decide_eq_true rfl, hs]
      have : cn (fun k => S k && !decide (k = i)) i = cn S i := cn_congr (fun k hk => by rw [decide_eq_false (by omega)]; exact Bool.and_true _)
      rw [this]
      rfl
    · have ih := cn_out hs n (by omega)
      rw [decide_eq_false (fun e => hin e.symm)]
      cases S n <;> simp only [Bool.and_true, Bool.not_false, Bool.false_and, Bool.false_eq_true, if_false, if_true] <;> omega
theorem bs_pos {S : Nat → Bool} {n i : Nat} (hi : i < n) (hs : S i = true) : 0 < bs S n := by
  rcases Nat.eq_zero_or_pos (bs S n) with h | h
  · have := bs_bit S n i hi
    rw [h, hs, Nat.zero_testBit] at this
    cases this
  · exact h
theorem lw_bs {S : Nat → Bool} {n : Nat} (hn : n ≤ 6) (h : 0 < bs S n) : lw (bs S n) < n ∧ S (lw (bs S n)) = true := by
  have h1 := lw_in _ (bs_le hn S) h
  by_cases h2 : lw (bs S n) < n
  · exact ⟨h2, by rw [← bs_bit S n _ h2]; exact h1⟩
  · rw [bs_bit_ge S (by omega)] at h1
    cases h1
theorem nI_0i {a : Nat} (ha : a < 2 ^ 31) : nI a = 0 ↔ a = 0 := nI_eq (b := 0) ha (by decide)
theorem cn_0 {P : Nat → Bool} {n : Nat} : cn P n = 0 ↔ ∀ x, x < n → P x = false := by
  constructor
  · exact fun h x hx => ps0_no h hx
  · intro h
    have e : cn P n = cn (fun _ => false) n := cn_congr h
    have e0 := cn_stop (P := fun _ => false) (a := 0) (b := n) (fun _ _ => rfl)
    rw [Nat.zero_add] at e0
    rw [e, e0]
    rfl
/-- the one that is left -/
theorem left_ok {S : Nat → Bool} {n : Nat} (hn : n ≤ 6) : ∃ x : Int32, ((x = -1 ∧ ∀ r, r < n → S r = false) ∨ ∃ i, i < n ∧ S i = true ∧ x = nI i) ∧ q11_leastOf (nI (bs S n)) = some x ∧ (if nI (bs S n) = 0 then (some (-1 : Int32)) else (Option.bind (q12_lowest (nI (bs S n))) fun x59_ => some x59_)) = some x := by
  have hb := bs_le hn S
  rcases Nat.eq_zero_or_pos (bs S n) with h | h
  · refine ⟨-1, Or.inl ⟨rfl, fun r hr => ?_⟩, ?_, ?_⟩
    · cases hs : S r with
      | false => rfl
      | true =>
        have := bs_pos hr hs
        omega
    · rw [h]; exact least_0
    · rw [h, if_pos (show nI 0 = 0 by decide)]
  · refine ⟨nI (lw (bs S n)), Or.inr ⟨_, (lw_bs hn h).1, (lw_bs hn h).2, rfl⟩, least_ok _ hb h, ?_⟩
    rw [if_neg (fun q => by have := (nI_0i (by omega)).mp q; omega), lowest_ok _ hb h]
    rfl
theorem rounds_ok {LR : LRT} {fav : FavT} {ab : AbsT} (L : LawF LR fav ab) {σ s ν u : St} {m : Nat → Int32} {n : Nat} (hn : n ≤ 6) (hW : WFm m n) (h3 : m 3 = nI n) (hu : u 1 = m) (hL : ∃ a b c, LR a b c (m 1) (m 2) (fun k => m (352 + k))) (hC : HeldC fav ab σ s m n) (hM : HeldM fav ab ν u m n) : R2 (q5_lastOfRounds s) (q12_byRounds u) (fun a b => a.1 = b ∧ ((b = -1 ∧ ∀ r, r < n → fRn m r = false) ∨ ∃ i, i < n ∧ fRn m i = true ∧ b = nI i) ∧ ∀ i, i ≠ 10 → a.2 i = s i) := by
  unfold q5_lastOfRounds q12_byRounds
  dsimp only [lt]
  rw [hC.2.1, hM.2.1]
  have hct := cn_top (P := fRn m) n
  refine r2_bind ?_
  refine lpR31 (cn (fRn m) n - 1) (fun t a q w b => b = a ∧ q = nI (t + 1) ∧ (∃ S : Nat → Bool, a = nI (bs S n) ∧ (∀ r, r < n → S r = true → fRn m r = true) ∧ cn S n = cn (fRn m) n - t) ∧ ∀ i, i ≠ 10 → w i = s i) ?_ fuelN fuelN 0 _ _ _ _ (Nat.zero_le _) (fuel_ok (by omega)) (fuel_ok (by omega)) ⟨rfl, rfl, ⟨_, rfl, fun _ _ h => h, rfl⟩, fun _ _ => rfl⟩
  rintro f g t a q w b ht ⟨rfl, rfl, ⟨S, rfl, hS, hcS⟩, wf⟩ IH
  have hC' := hC.re wf
  have e8 : w 6 8 = nI (cn (fRn m) n) := by rw [hC'.2.2.1, bcount_bs hn]
  rw [e8, bits_ok (bs_le hn S), bcount_bs hn]
  simp only [Option.bind_some]
  have hiff : nI (t + 1) < nI (cn (fRn m) n) ↔ 1 < nI (cn S n) := by
    rw [nI_ltI (by omega) (by omega)]
    have e : (1 : Int32) < nI (cn S n) ↔ 1 < cn S n := nI_ltI (a := 1) (by omega) (by omega)
    rw [e]
    omega
  refine r2_ite hiff (fun hlt => ?_) (fun _ => ?_)
  · have htn : t + 1 < cn (fRn m) n := (nI_ltI (by omega) (by omega)).mp hlt
    obtain ⟨w', ew, w1, w2⟩ := tallyF (S := S) hn hC' hS
    rw [ew]
    simp only [Option.bind_some]
    have hC2 := hC'.re w2
    refine r2_bind (r2_mono (Q := fun x y => x.1 = y.1 ∧ ∃ i, i < n ∧ S i = true ∧ x.1 = nI i) ?_ ?_)
    · refine lpR22 n (fun k a p b q => p = nI k ∧ q = nI k ∧ a = b ∧ ((a = -1 ∧ ∀ r, r < k → S r = false) ∨ ∃ i, i < n ∧ S i = true ∧ a = nI i)) ?_ fuelN fuelN 0 (-1) 0 (-1) 0 (Nat.zero_le _) (fuel_ok (by omega)) (fuel_ok (by omega)) ⟨rfl, rfl, rfl, Or.inl ⟨rfl, fun r hr => absurd hr (Nat.not_lt_zero _)⟩⟩
      rintro f g k a p b q hk ⟨rfl, rfl, rfl, ha⟩ IH2
      refine r2_R ag3 ?_
      rw [hC2.1, hu, h3]
      refine r2_ite Iff.rfl (fun hlt2 => ?_) (fun hge2 => ?_)
      · have hkn : k < n := (nI_ltI (by omega) (by omega)).mp hlt2
        rw [isOf_isIn, isIn_bs hn hkn]
        by_cases hSk : S k = true
        · rw [if_pos hSk, if_pos hSk]
          rcases ha with ⟨rfl, hno⟩ | ⟨i, hi, hSi, rfl⟩
          · simp only [if_true, Option.bind_some]
            rw [nI_1]
            exact IH2 _ _ _ _ hkn ⟨rfl, rfl, rfl, Or.inr ⟨k, hkn, hSk, rfl⟩⟩
          · rw [if_neg (nI_m1 (by omega)), if_neg (nI_m1 (by omega)), ag_nI (k := k) rfl (by omega) (by decide), ag_nI (k := i) rfl (by omega) (by decide), w1 k hkn hSk, w1 i hi hSi, votesAt_ok L 0 hn hW h3 hu hL hM hkn, votesAt_ok L 0 hn hW h3 hu hL hM hi]
            simp only [Option.bind_some]
            by_cases hc : nI (cn (vtB fav ab m S n k 0) n) ≤ nI (cn (vtB fav ab m S n i 0) n)
            · simp only [if_pos hc, if_true, Option.bind_some]
              rw [nI_1]
              exact IH2 _ _ _ _ hkn ⟨rfl, rfl, rfl, Or.inr ⟨k, hkn, hSk, rfl⟩⟩
            · simp only [if_neg hc, Bool.false_eq_true, if_false, Option.bind_some]
              rw [nI_1]
              exact IH2 _ _ _ _ hkn ⟨rfl, rfl, rfl, Or.inr ⟨i, hi, hSi, rfl⟩⟩
        · rw [if_neg hSk, if_neg hSk]
          simp only [Option.bind_some, Bool.false_eq_true, if_false]
          rw [nI_1]
          refine IH2 _ _ _ _ hkn ⟨rfl, rfl, rfl, ha.imp (fun h => ⟨h.1, fun r hr => ?_⟩) id⟩
          by_cases hrk : r = k
          · rw [hrk]; exact Bool.not_eq_true _ |>.mp hSk
          · exact h.2 r (by omega)
      · have hke : k = n := by
          have : ¬ k < n := fun q => hge2 (nI_lt q (by omega))
          omega
        subst hke
        refine r2_some ⟨rfl, ?_⟩
        rcases ha with ⟨rfl, hno⟩ | h
        · exfalso
          have : cn S k = cn (fun _ => false) k := cn_congr hno
          have e0 := cn_stop (P := fun _ => false) (a := 0) (b := k) (fun _ _ => rfl)
          rw [Nat.zero_add] at e0
          have e1 : cn (fun _ => false) 0 = 0 := rfl
          omega
        · exact h
    · rintro ⟨x, x'⟩ ⟨y, y'⟩ ⟨exy, i, hi, hSi, ei⟩
      dsimp only at exy ei ⊢
      subst exy ei
      rw [if_pos (nI_m1 (by omega))]
      unfold q11_without
      rw [out_bs hn hi, nI_1]
      refine IH _ _ _ _ (by omega) ⟨rfl, rfl, ⟨_, rfl, fun r hr h => ?_, ?_⟩, fun i hi => by rw [w2 i hi]; exact wf i hi⟩
      · rw [Bool.and_eq_true] at h
        exact hS r hr h.1
      · have := cn_out hSi n hi
        omega
  · refine r2_some ?_
    obtain ⟨x, x1, x2, x3⟩ := left_ok (S := S) hn
    dsimp only
    rw [x2, x3]
    refine r2_some ⟨rfl, x1.imp (fun ⟨h1, h2⟩ => ⟨h1, fun r hr => ?_⟩) (fun ⟨i, h1, h2, h3⟩ => ⟨i, h1, hS i h1 h2, h3⟩), wf⟩
    have h0 := cn_0.mpr h2
    exact ps0_no (S := fRn m) (by omega) hr
theorem bt_not {fav : FavT} {ab : AbsT} {m : Nat → Int32} {n i j : Nat} (h : btB fav ab m n i j = true) : btB fav ab m n j i = false := by
  cases h2 : btB fav ab m n j i with
  | false => rfl
  | true =>
    exfalso
    unfold btB at h h2
    rw [Bool.and_eq_true, decide_eq_true_eq] at h h2
    have key : ∀ k, cn (wvB fav ab m i j) k + cn (wvB fav ab m j i) k ≤ cn (fVt ab m) k := by
      intro k
      induction k with
      | zero => exact Nat.le_refl _
      | succ k ih =>
        rw [cn_s, cn_s, cn_s]
        have a1 : wvB fav ab m i j k = true → fVt ab m k = true := fun h => by unfold wvB at h; rw [Bool.and_eq_true] at h; exact h.1
        have a2 : wvB fav ab m j i k = true → fVt ab m k = true := fun h => by unfold wvB at h; rw [Bool.and_eq_true] at h; exact h.1
        have a3 : wvB fav ab m i j k = true → ¬ wvB fav ab m j i k = true := fun h q => by
          unfold wvB at h q
          rw [Bool.and_eq_true] at h q
          exact ah_irr (ah_tr h.2 q.2)
        by_cases h1 : wvB fav ab m i j k = true
        · rw [if_pos h1, if_neg (a3 h1), if_pos (a1 h1)]; omega
        · rw [if_neg h1]
          by_cases h2 : wvB fav ab m j i k = true
          · rw [if_pos h2, if_pos (a2 h2)]; omega
          · rw [if_neg h2]; split <;> omega
    have := key n
    omega
theorem winnerBy_ok {LR : LRT} {fav : FavT} {ab : AbsT} (L : LawF LR fav ab) {σ s ν u : St} {m : Nat → Int32} {n w : Nat} (hn : n ≤ 6) (hW : WFm m n) (h3 : m 3 = nI n) (hu : u 1 = m) (hL : ∃ a b c, LR a b c (m 1) (m 2) (fun k => m (352 + k))) (hC : HeldC fav ab σ s m n) (hM : HeldM fav ab ν u m n) (hw : w < 6) : ∃ x s', q5_winnerBy s (nI w) = some (x, s') ∧ q12_winnerBy u (nI w) = some x ∧ ((x = -1 ∧ ∀ r, r < n → fRn m r = false) ∨ ∃ i, i < n ∧ fRn m i = true ∧ x = nI i) ∧ ∀ i, i ≠ 10 → s' i = s i := by
  unfold q5_winnerBy q12_winnerBy
  have hu3 : u 1 3 = nI n := by rw [hu]; exact h3
  have hct := cn_top (P := fRn m) n
  rcases (show w = 0 ∨ w = 1 ∨ w = 2 ∨ w = 3 ∨ w = 4 ∨ w = 5 by omega) with rfl | rfl | rfl | rfl | rfl | rfl
  · obtain ⟨s', es, s1, s2⟩ := tallyF (S := fRn m) hn hC (fun _ _ h => h)
    have hC' := hC.re s2
    obtain ⟨x, x1, x2, x3⟩ := best_ok (s := s') (u := u) (S := fRn m) (y := 0) (c := fun r => nI (cn (vtB fav ab m (fRn m) n r 0) n)) hn hC'.1 hu3 s1 (fun r hr hs => by
      unfold q12_countOf
      rw [if_pos rfl, votesAt_ok L 0 hn hW h3 hu hL hM hr]
      rfl)
    refine ⟨x, s', ?_, ?_, x1, s2⟩
    · rw [if_neg (show ¬ nI 0 = 4 by decide), if_neg (show ¬ nI 0 = 5 by decide), if_pos (show nI 0 = 0 by decide), hC.2.1, es]
      simp only [Option.bind_some]
      rw [hC'.2.1, x2]
      rfl
    · rw [if_pos (show nI 0 < 4 by decide), hM.2.1]
      show Option.bind (q12_winnerOf u 0 _) _ = _
      rw [x3]
      rfl
  · obtain ⟨s', es, s1, s2⟩ := tallyL hn hC
    have hC' := hC.re s2
    obtain ⟨x, x1, x2, x3⟩ := best_ok (s := s') (u := u) (S := fRn m) (y := 1) (c := fun r => -nI (cn (vtB fav ab m (fRn m) n r (nI (cn (fRn m) n) - 1)) n)) hn hC'.1 hu3 (fun r hr _ => s1 r hr) (fun r hr hs => by
      unfold q12_countOf
      rw [if_neg (by decide), if_pos rfl, bits_ok (bs_le hn _), bcount_bs hn]
      simp only [Option.bind_some]
      rw [votesAt_ok L _ hn hW h3 hu hL hM hr]
      rfl)
    refine ⟨x, s', ?_, ?_, x1, s2⟩
    · rw [if_neg (show ¬ nI 1 = 4 by decide), if_neg (show ¬ nI 1 = 5 by decide), if_neg (show ¬ nI 1 = 0 by decide), if_pos (show nI 1 = 1 by decide), es]
      simp only [Option.bind_some]
      rw [hC'.2.1, x2]
      rfl
    · rw [if_pos (show nI 1 < 4 by decide), hM.2.1]
      show Option.bind (q12_winnerOf u 1 _) _ = _
      rw [x3]
      rfl
  · obtain ⟨s', es, s1, s2⟩ := tallyP hn hC
    have hC' := hC.re s2
    obtain ⟨x, x1, x2, x3⟩ := best_ok (s := s') (u := u) (S := fRn m) (y := 2) (c := fun r => ptI fav ab m n r n) hn hC'.1 hu3 (fun r hr _ => s1 r hr) (fun r hr hs => by
      unfold q12_countOf
      rw [if_neg (by decide), if_neg (by decide), if_pos rfl, points12 L hn hW h3 hu hL hM hr]
      rfl)
    refine ⟨x, s', ?_, ?_, x1, s2⟩
    · rw [if_neg (show ¬ nI 2 = 4 by decide), if_neg (show ¬ nI 2 = 5 by decide), if_neg (show ¬ nI 2 = 0 by decide), if_neg (show ¬ nI 2 = 1 by decide), if_pos (show nI 2 = 2 by decide), es]
      simp only [Option.bind_some]
      rw [hC'.2.1, x2]
      rfl
    · rw [if_pos (show nI 2 < 4 by decide), hM.2.1]
      show Option.bind (q12_winnerOf u 2 _) _ = _
      rw [x3]
      rfl
  · obtain ⟨s', es, s1, s2⟩ := tallyD hn hC
    have hC' := hC.re s2
    obtain ⟨x, x1, x2, x3⟩ := best_ok (s := s') (u := u) (S := fRn m) (y := 3) (c := fun r => nI (duN fav ab m n r n)) hn hC'.1 hu3 (fun r hr _ => s1 r hr) (fun r hr hs => by
      unfold q12_countOf
      rw [if_neg (by decide), if_neg (by decide), if_neg (by decide), duels12 L hn hW h3 hu hL hM hr]
      rfl)
    refine ⟨x, s', ?_, ?_, x1, s2⟩
    · rw [if_neg (show ¬ nI 3 = 4 by decide), if_neg (show ¬ nI 3 = 5 by decide), if_neg (show ¬ nI 3 = 0 by decide), if_neg (show ¬ nI 3 = 1 by decide), if_neg (show ¬ nI 3 = 2 by decide), es]
      simp only [Option.bind_some]
      rw [hC'.2.1, x2]
      rfl
    · rw [if_pos (show nI 3 < 4 by decide), hM.2.1]
      show Option.bind (q12_winnerOf u 3 _) _ = _
      rw [x3]
      rfl
  · obtain ⟨⟨a, s'⟩, b, e1, e2, rfl, hp, hf⟩ := rounds_ok L hn hW h3 hu hL hC hM
    refine ⟨a, s', ?_, ?_, hp, hf⟩
    · rw [if_pos (show nI 4 = 4 by decide), e1]
      rfl
    · rw [if_neg (show ¬ nI 4 < 4 by decide), if_pos (show nI 4 = 4 by decide)]
      simp only [Option.bind_some, if_true]
      rw [e2]
      rfl
  · rw [if_neg (show ¬ nI 5 = 4 by decide), if_pos (show nI 5 = 5 by decide), if_neg (show ¬ nI 5 < 4 by decide), if_neg (show ¬ nI 5 = 4 by decide)]
    unfold q5_betterOfTwo
    dsimp only [lt]
    rw [hC.2.2.1, hM.2.1, hC.2.1, bits_ok (bs_le hn _), bcount_bs hn]
    simp only [Option.bind_some]
    have e2 : nI (cn (fRn m) n) < 2 ↔ cn (fRn m) n < 2 := nI_ltI (b := 2) (by omega) (by decide)
    by_cases h2 : cn (fRn m) n < 2
    · rw [if_pos (e2.mpr h2), if_pos (e2.mpr h2)]
      simp only [if_true, Option.bind_some]
      obtain ⟨x, x1, x2, x3⟩ := left_ok (S := fRn m) hn
      have hb : Wo (q12_byRounds u) (fun r => r = x) := by
        unfold q12_byRounds
        dsimp only [lt]
        rw [hM.2.1]
        refine wo_bind ?_
        refine lpW1 0 (fun t q => q = nI (bs (fRn m) n)) ?_ fuelN 0 _ (Nat.zero_le _) (fuel_ok (by omega)) rfl
        rintro rec t q ht rfl IH
        rw [bits_ok (bs_le hn _), bcount_bs hn]
        simp only [Option.bind_some]
        have e1 : ¬ (1 : Int32) < nI (cn (fRn m) n) := fun q => by
          have := (nI_ltI (a := 1) (by omega) (by omega)).mp q
          omega
        rw [if_neg e1]
        refine wo_some ?_
        rw [x3]
        exact wo_some rfl
      obtain ⟨r, er, rfl⟩ := hb
      refine ⟨r, s, ?_, ?_, x1, fun _ _ => rfl⟩
      · rw [x2]; rfl
      · rw [er]; rfl
    · rw [if_neg (fun q => h2 (e2.mp q)), if_neg (fun q => h2 (e2.mp q))]
      simp only [Bool.false_eq_true, if_false, Option.bind_some]
      obtain ⟨s1, es1, s11, s12⟩ := tallyF (S := fRn m) hn hC (fun _ _ h => h)
      have hC1 := hC.re s12
      obtain ⟨x, x1, x2, x3⟩ := best_ok (s := s1) (u := u) (S := fRn m) (y := 0) (c := fun r => nI (cn (vtB fav ab m (fRn m) n r 0) n)) hn hC1.1 hu3 s11 (fun r hr hs => by
        unfold q12_countOf
        rw [if_pos rfl, votesAt_ok L 0 hn hW h3 hu hL hM hr]
        rfl)
      have hnone : ∀ {S : Nat → Bool}, 0 < cn S n → ¬ ∀ r, r < n → S r = false := fun {S} hp hno => by
        obtain ⟨y, y1, y2, y3⟩ := ps_sur (R := S) (f := fun _ => 0) n 0 hp
        rw [hno y y1] at y2
        cases y2
      rw [es1]
      simp only [Option.bind_some]
      rw [hC1.2.1, x2, x3]
      simp only [Option.bind_some]
      rcases x1 with ⟨-, hno⟩ | ⟨i, hi, hRi, rfl⟩
      · exact absurd hno (hnone (by omega))
      unfold q11_without
      rw [out_bs hn hi]
      have hco := cn_out hRi n hi
      obtain ⟨s2, es2, s21, s22⟩ := tallyF (S := fun k => fRn m k && !decide (k = i)) hn hC1 (fun r _ h => by rw [Bool.and_eq_true] at h; exact h.1)
      have hC2 := hC1.re s22
      obtain ⟨y, y1, y2, y3⟩ := best_ok (s := s2) (u := u) (S := fun k => fRn m k && !decide (k = i)) (y := 0) (c := fun r => nI (cn (vtB fav ab m (fun k => fRn m k && !decide (k = i)) n r 0) n)) hn hC2.1 hu3 s21 (fun r hr hs => by
        unfold q12_countOf
        rw [if_pos rfl, votesAt_ok L 0 hn hW h3 hu hL hM hr]
        rfl)
      rw [es2]
      simp only [Option.bind_some]
      rw [y2, y3]
      simp only [Option.bind_some]
      rcases y1 with ⟨-, hno⟩ | ⟨j, hj, hRj, rfl⟩
      · exact absurd hno (hnone (by omega))
      rw [Bool.and_eq_true] at hRj
      have hji : j ≠ i := fun e => by
        have := hRj.2
        rw [decide_eq_true e] at this
        cases this
      have hfr : ∀ k, k ≠ 10 → s2 k = s k := fun k hk => by rw [s22 k hk]; exact s12 k hk
      rw [beat12 L hn hW h3 hu hL hM hi hj, beat12 L hn hW h3 hu hL hM hj hi]
      simp only [Option.bind_some]
      by_cases hij : i < j
      · have m1 : imin (nI i) (nI j) = nI i := by unfold imin; rw [if_neg (fun q => by have := (nI_ltI (by omega) (by omega)).mp q; omega)]
        have m2 : imax (nI i) (nI j) = nI j := by unfold imax; rw [if_pos (nI_lt hij (by omega))]
        have m3 : q12_lesser (nI i) (nI j) = nI i := by rw [← imin_le, m1]
        rw [m1, m2, m3, ahead11 hn hC2 hj hi hji]
        simp only [Option.bind_some]
        cases b1 : btB fav ab m n i j with
        | true =>
          rw [bt_not b1]
          exact ⟨nI i, s2, rfl, rfl, Or.inr ⟨i, hi, hRi, rfl⟩, hfr⟩
        | false =>
          cases b2 : btB fav ab m n j i with
          | true => exact ⟨nI j, s2, rfl, rfl, Or.inr ⟨j, hj, hRj.1, rfl⟩, hfr⟩
          | false => exact ⟨nI i, s2, rfl, rfl, Or.inr ⟨i, hi, hRi, rfl⟩, hfr⟩
      · have m1 : imin (nI i) (nI j) = nI j := by unfold imin; rw [if_pos (nI_lt (by omega) (by omega))]
        have m2 : imax (nI i) (nI j) = nI i := by unfold imax; rw [if_neg (fun q => hij ((nI_ltI (by omega) (by omega)).mp q))]
        have m3 : q12_lesser (nI i) (nI j) = nI j := by rw [← imin_le, m1]
        rw [m1, m2, m3, ahead11 hn hC2 hi hj (Ne.symm hji)]
        simp only [Option.bind_some]
        cases b1 : btB fav ab m n i j with
        | true => exact ⟨nI i, s2, rfl, rfl, Or.inr ⟨i, hi, hRi, rfl⟩, hfr⟩
        | false =>
          cases b2 : btB fav ab m n j i with
          | true => exact ⟨nI j, s2, rfl, rfl, Or.inr ⟨j, hj, hRj.1, rfl⟩, hfr⟩
          | false => exact ⟨nI j, s2, rfl, rfl, Or.inr ⟨j, hj, hRj.1, rfl⟩, hfr⟩
theorem RR.s10 {LR : LRT} {σ s μ : St} (h : RR LR σ μ) (e : ∀ i, i ≠ 10 → s i = σ i) : RR LR s μ := h.sC (fun i hi => e i (by unfold keepC at hi; omega)) (by rw [e 1 (by decide)]) (by rw [e 32 (by decide)]) (by rw [e 32 (by decide)])
theorem op_winner {LR : LRT} {fav : FavT} {ab : AbsT} (L : LawF LR fav ab) : Op_winner (RR LR) := by
  intro σ μ hR w
  obtain ⟨n, hN, hV, hW⟩ := hR.nn
  have hn := hN.1
  unfold q11_winner q12_winner q11_pollNow
  dsimp only [lt]
  rcases num_cases w 0 5 with ⟨h1, h2⟩ | ⟨h1, h2, h3, h4⟩
  · rw [h1, h2]
    exact ⟨(.inl 0, σ), (0, up μ 0 0 1), rfl, by simp only [Bool.false_eq_true, not_false_eq_true, if_true, up_at, if_pos lt01], sx_thr (i := 0) (by decide) (by decide) rfl, hR.t0⟩
  · rw [h1, h2]
    obtain ⟨k, hk, rfl⟩ := nI_of2 (x := w) (M := 5) (n := 5) (by decide) (fun h => Int32.lt_irrefl (Int32.lt_of_lt_of_le h h3)) h4
    simp only [Option.bind_some, not_true_eq_false, if_false, up_at, if_neg lt0]
    obtain ⟨⟨s, es, hC⟩, u, eu, hM⟩ := polls (ν := up μ 0 0 0) L hR hV hW up0_1
    have u1 : u 1 = μ 1 := (hM.2.2.2.1 1 (by decide) (by decide) (by decide)).trans up0_1
    have u00 : u 0 0 = 0 := by rw [hM.2.2.2.2.1 0 (by omega), up_at]
    have hRR : RR LR s u := ((hR.heldC hC).t0).heldM hM
    obtain ⟨x, s', e1, e2, -, e4⟩ := winnerBy_ok L (w := k) hn hW hN.2.2 u1 ⟨_, _, _, hR.2.2.2.2.2⟩ hC hM (by omega)
    rw [es, eu]
    simp only [Option.bind_some]
    show ∃ r1 r2, Option.bind (q5_winnerBy s (nI k)) _ = some r1 ∧ _
    rw [e1, e2]
    exact ⟨(.inr x, s'), (x, u), rfl, rfl, sx_ok u00, hRR.s10 e4⟩

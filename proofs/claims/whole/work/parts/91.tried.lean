/-! LAYER 2: HUNGRY, KINDEST, SPAN -/
theorem cnt6 {n : Nat} (hn : n ≤ 6) (f : Nat → Bool) : ∃ c, c ≤ 6 ∧ bcount (nI (bs f n)) = nI c := ⟨cn f n, Nat.le_trans (cn_top n) hn, bcount_bs hn⟩
theorem hung_ok {LR : LRT} {fav : FavT} {ab : AbsT} (L : LawF LR fav ab) {σ μ : St} (hR : RR LR σ μ) {w N : Nat} (hw : w ≤ 5) (hN : N ≤ 60) : R2 (q11_leftHungry σ (nI w) (nI N)) (q12_hungryBy μ (nI w) (nI N)) (fun a y => a.1 = y.1 ∧ RR LR a.2 y.2 ∧ y.2 0 0 = μ 0 0 ∧ ∃ c, c ≤ 6 ∧ y.1 = nI c) := by
  unfold q11_leftHungry q12_hungryBy
  dsimp only [lt]
  obtain ⟨u, eu, hRu, hA, u1, u0⟩ := aside_ok hR
  obtain ⟨n, -, hV, hW⟩ := hRu.nn
  obtain ⟨s, es, hRs, hws, -⟩ := spare_ok hRu hV hW
  have hn := hws.1.1.1
  have p1 := Wk.put0 (k := 13) (l := 6) (x := nI w) (y := nI w) (n := n) (Fw.rfl' (v := 54) (σ := s) (μ := u)) (Or.inr rfl) (by omega) (by omega) (by omega) hws.1.uWy (hws.2.uWy hn (inR_nI hw))
  obtain ⟨a, y, ea, ey, q1, q2, q3, -⟩ := bake_ok L (Or.inr rfl) p1.1 (p1.2.law (LR := LR) (Or.inr rfl) hRs.2.2.2.2.2) (N := N) (by omega) false
  obtain ⟨u', eu', hRR, -, -, g0⟩ := back_ok hRs hA (p1.2.tr q2)
  obtain ⟨t1, t2⟩ := t_of q1
  refine r2_L es ?_
  refine r2_R eu ?_
  refine r2_R (sa_nI (j := 6) (k := 6) rfl (by decide) (by decide)) ?_
  refine r2_L ea ?_
  refine r2_R ey ?_
  refine r2_R t2 ?_
  refine r2_R (bits_ok (bs_le hn _)) ?_
  refine r2_R eu' ?_
  refine r2_some ⟨?_, hRR, ?_, cnt6 hn _⟩
  · rw [t1]
  · dsimp only
    rw [g0 0 (by omega), u0]
theorem op_hungry {LR : LRT} {fav : FavT} {ab : AbsT} (L : LawF LR fav ab) : Op_hungry (RR LR) := by
  intro σ μ hR w x
  unfold q11_hungry q12_hungry
  dsimp only [lt]
  rcases num_cases w 0 5 with ⟨g1, g2⟩ | ⟨g1, g2, g3, g4⟩
  · rw [g1, g2]
    exact ⟨(.inl 0, σ), (0, up μ 0 0 1), rfl, by simp only [Bool.false_eq_true, not_false_eq_true, true_or, if_true, up_at, if_pos lt01, Option.bind_some], sx_thr (i := 0) (by decide) (by decide) rfl, hR.t0⟩
  rcases num_cases x 0 60 with ⟨h1, h2⟩ | ⟨h1, h2, h3, h4⟩
  · rw [g1, g2, h1, h2]
    exact ⟨(.inl 0, σ), (0, up μ 0 0 1), rfl, by simp only [Bool.false_eq_true, not_false_eq_true, or_true, if_true, up_at, if_pos lt01, Option.bind_some], sx_thr (i := 0) (by decide) (by decide) rfl, hR.t0⟩
  · rw [g1, g2, h1, h2]
    obtain ⟨N, hN, rfl⟩ := num_le (M := 60) (by decide) h3 h4
    obtain ⟨W, hW, rfl⟩ := num_le (M := 5) (by decide) g3 g4
    simp only [not_true_eq_false, or_self, if_false, up_at, if_neg lt0]
    obtain ⟨a, y, ea, ey, q1, q2, q3, -⟩ := hung_ok L (hR.t0 (x := 0)) hW hN
    rw [thn_n, thn_n, ea, ey]
    refine ⟨(.inr a.1, a.2), (y.1, y.2), rfl, rfl, ?_, q2⟩
    rw [q1]
    exact sx_ok (by rw [q3, up_at])
theorem op_kindest {LR : LRT} {fav : FavT} {ab : AbsT} (L : LawF LR fav ab) : Op_kindest (RR LR) := by
  intro σ μ hR x
  unfold q11_kindest q12_kindest
  dsimp only [lt]
  rcases num_cases x 0 60 with ⟨h1, h2⟩ | ⟨h1, h2, h3, h4⟩
  · rw [h1, h2]
    exact ⟨(.inl 0, σ), (0, up μ 0 0 1), rfl, by simp only [Bool.false_eq_true, not_false_eq_true, if_true, up_at, if_pos lt01], sx_thr (i := 0) (by decide) (by decide) rfl, hR.t0⟩
  · rw [h1, h2]
    obtain ⟨N, hN, rfl⟩ := num_le (M := 60) (by decide) h3 h4
    simp only [not_true_eq_false, if_false, up_at, if_neg lt0]
    rw [thn_n]
    have key : R2 (loop4 (fun rec6_ (best9_ : Int32) (fewest10_ : Int32) (way11_ : Int32) (σ12_ : St) =>
  if way11_ < 6 then
  Option.bind (q11_leftHungry σ12_ way11_ (nI N)) fun x19_ =>
  rec6_ (if x19_.1 < fewest10_ then ((way11_, x19_.1)) else ((best9_, fewest10_))).1 (if x19_.1 < fewest10_ then ((way11_, x19_.1)) else ((best9_, fewest10_))).2 (way11_ + 1) x19_.2
  else (some (best9_, fewest10_, way11_, σ12_))) fuelN (0 : Int32) (7 : Int32) (0 : Int32) σ) (loop4 (fun rec15_ (found18_ : Int32) (least19_ : Int32) (way20_ : Int32) (σ21_ : St) =>
  if way20_ < 6 then
  Option.bind (q12_hungryBy σ21_ way20_ (nI N)) fun x28_ =>
  if least19_ ≤ x28_.1 then (rec15_ found18_ least19_ (way20_ + 1) x28_.2) else
  rec15_ way20_ x28_.1 (way20_ + 1) x28_.2
  else (some (found18_, least19_, way20_, σ21_))) fuelN (0 : Int32) (2000000000 : Int32) (0 : Int32) (up μ 0 0 0)) (fun a b => a.1 = b.1 ∧ RR LR a.2.2.2 b.2.2.2 ∧ b.2.2.2 0 0 = 0) := by
      refine lpR44 6 (fun k a b c s a' b' c' u => c = nI k ∧ c' = nI k ∧ a = a' ∧ RR LR s u ∧ u 0 0 = 0 ∧ ((b = 7 ∧ b' = 2000000000) ∨ b = b')) ?_ fuelN fuelN 0 _ _ _ _ _ _ _ _ (Nat.zero_le _) (fuel_ok (by omega)) (fuel_ok (by omega)) ⟨rfl, rfl, rfl, hR.t0, up_at, Or.inl ⟨rfl, rfl⟩⟩
      rintro F G k a b c s a' b' c' u hk ⟨rfl, rfl, rfl, hRs, hu, hb⟩ IH
      have e6 : nI k < 6 ↔ k < 6 := nI_ltI (b := 6) (by omega) (by decide)
      refine r2_ite Iff.rfl (fun hlt => ?_) (fun _ => r2_some ⟨rfl, hRs, hu⟩)
      have hk6 := e6.mp hlt
      obtain ⟨p, y, ep, ey, q1, q2, q3, c, hc, q4⟩ := hung_ok L hRs (w := k) (by omega) hN
      rw [ep, ey]
      simp only [Option.bind_some]
      rw [q1, q4, nI_1]
      have hq3 : y.2 0 0 = 0 := q3.trans hu
      rcases hb with ⟨rfl, rfl⟩ | rfl
      · have e7 : nI c < 7 := nI_lt (b := 7) (by omega) (by decide)
        have e2 : ¬ (2000000000 : Int32) ≤ nI c := Int32.not_le.mpr (Int32.lt_trans e7 (by decide))
        rw [if_pos e7, if_neg e2]
        exact IH _ _ _ _ _ _ _ _ hk6 ⟨rfl, rfl, rfl, q2, hq3, Or.inr rfl⟩
      · by_cases hc : nI c < b
        · rw [if_pos hc, if_neg (Int32.not_le.mpr hc)]
          exact IH _ _ _ _ _ _ _ _ hk6 ⟨rfl, rfl, rfl, q2, hq3, Or.inr rfl⟩
        · rw [if_neg hc, if_pos (Int32.not_lt.mp hc)]
          exact IH _ _ _ _ _ _ _ _ hk6 ⟨rfl, rfl, rfl, q2, hq3, Or.inr rfl⟩
    obtain ⟨a, b, ea, eb, q1, q2, q3⟩ := key
    rw [ea, eb]
    refine ⟨(.inr a.1, a.2.2.2), (b.1, b.2.2.2), rfl, rfl, ?_, q2⟩
    rw [q1]
    exact sx_ok q3
theorem op_span {LR : LRT} {fav : FavT} {ab : AbsT} (L : LawF LR fav ab) : Op_span (RR LR) := by
  intro σ μ hR x m
  unfold q11_span q12_span
  dsimp only [lt]
  rcases num_cases x 0 60 with ⟨h1, h2⟩ | ⟨h1, h2, h3, h4⟩
  · rw [h1, h2]
    exact ⟨(.inl 0, σ), (0, up μ 0 0 1), rfl, by simp only [Bool.false_eq_true, not_false_eq_true, if_true, up_at, if_pos lt01], sx_thr (i := 0) (by decide) (by decide) rfl, hR.t0⟩
  · rw [h1, h2]
    obtain ⟨N, hN, rfl⟩ := num_le (M := 60) (by decide) h3 h4
    simp only [not_true_eq_false, if_false, up_at, if_neg lt0]
    obtain ⟨u, eu, hRu, hA, u1, u0⟩ := aside_ok (hR.t0 (x := 0))
    have u00 : u 0 0 = 0 := by rw [u0, up_at]
    rw [thn_n, eu]
    simp only [Option.bind_some]
    have key : R2 (loop4 (fun rec6_ (least9_ : Int32) (greatest10_ : Int32) (seed11_ : Int32) (σ12_ : St) =>
  if seed11_ ≤ 6 then
  Option.bind (q10_become σ12_ 54 44) fun x19_ =>
  Option.bind (q0_bakeWeeks (up x19_ 54 15 seed11_) 54 (nI N) true) fun x23_ =>
  rec6_ (imin least9_ (bcount (x23_ 54 10))) (imax greatest10_ (bcount (x23_ 54 10))) (seed11_ + 1) x23_
  else (some (least9_, greatest10_, seed11_, σ12_))) fuelN (6 : Int32) (0 : Int32) (1 : Int32) σ) (loop3 (fun rec17_ (found20_ : Int32) (s21_ : Int32) (σ22_ : St) =>
  if s21_ ≤ 6 then
  Option.bind (sa σ22_ 1 752 9 s21_) fun σ29_ =>
  Option.bind (q12_goes σ29_ (nI N) true) fun x31_ =>
  Option.bind (q12_those x31_.2 4) fun x33_ =>
  Option.bind (q12_bits x33_) fun x35_ =>
  Option.bind (q12_comesBack x31_.2) fun x37_ =>
  rec17_ (if found20_ = (-1) then x35_ else if m = true then q12_greater found20_ x35_ else q12_lesser found20_ x35_) (s21_ + 1) x37_
  else (some (found20_, s21_, σ22_))) fuelN (-1 : Int32) (1 : Int32) u) (fun a b => (if m = true then a.2.1 else a.1) = b.1 ∧ RR LR a.2.2.2 b.2.2 ∧ b.2.2 0 0 = 0) := by
      refine lpR43 6 (fun k l g c s f c' z => c = nI (k + 1) ∧ c' = nI (k + 1) ∧ RR LR s z ∧ z 0 0 = 0 ∧ (∀ j, j < 352 → z 3 j = z 1 j) ∧ ((k = 0 ∧ l = 6 ∧ g = 0 ∧ f = -1) ∨ (0 < k ∧ ∃ a b, a ≤ 6 ∧ b ≤ 6 ∧ l = nI a ∧ g = nI b ∧ f = if m = true then g else l))) ?_ fuelN fuelN 0 _ _ _ _ _ _ _ (Nat.zero_le _) (fuel_ok (by omega)) (fuel_ok (by omega)) ⟨rfl, rfl, hRu, u00, hA, Or.inl ⟨rfl, rfl, rfl, rfl⟩⟩
      rintro F G k l g c s f c' z hk ⟨rfl, rfl, hRs, hz, hAz, hb⟩ IH
      have e6 : nI (k + 1) ≤ 6 ↔ k < 6 := by
        rw [← Int32.not_lt, show (6 : Int32) = nI 6 from rfl, nI_ltI (by omega) (by omega)]
        omega
      refine r2_ite Iff.rfl (fun hlt => ?_) (fun hge => ?_)
      · have hk6 := e6.mp hlt
        obtain ⟨n, -, hV, hW⟩ := hRs.nn
        obtain ⟨w, es, hRw, hww, -⟩ := spare_ok hRs hV hW
        have hn := hww.1.1.1
        have p1 := Wk.put0 (k := 15) (l := 9) (x := nI (k + 1)) (y := nI (k + 1)) (n := n) (Fw.rfl' (v := 54) (σ := w) (μ := z)) (Or.inr rfl) (by omega) (by omega) (by omega) hww.1.uSd (hww.2.uSd hn)
        obtain ⟨a, y, ea, ey, q1, q2, q3, -⟩ := bake_ok L (Or.inr rfl) p1.1 (p1.2.law (LR := LR) (Or.inr rfl) hRw.2.2.2.2.2) (N := N) (by omega) true
        obtain ⟨u', eu', hRR, hA', -, g0⟩ := back_ok hRw hAz (p1.2.tr q2)
        obtain ⟨t1, t2⟩ := t_of q1
        refine r2_L es ?_
        refine r2_R (sa_nI (j := 9) (k := 9) rfl (by decide) (by decide)) ?_
        refine r2_L ea ?_
        refine r2_R ey ?_
        refine r2_R t2 ?_
        refine r2_R (bits_ok (bs_le hn _)) ?_
        refine r2_R eu' ?_
        obtain ⟨c, hc, ec⟩ := cnt6 hn (fB (y.2 1))
        rw [t1, ec, nI_1]
        have hu' : u' 0 0 = 0 := by rw [g0 0 (by omega)]; exact hz
        rcases hb with ⟨-, rfl, rfl, rfl⟩ | ⟨-, a', b', ha, hb', rfl, rfl, rfl⟩
        · have m1 : imin 6 (nI c) = nI c := by
            rw [show (6 : Int32) = nI 6 from rfl, imin_nI (by omega) (by omega), show min 6 c = c from by omega]
          have m2 : imax 0 (nI c) = nI c := by
            unfold imax
            by_cases h : (0 : Int32) < nI c
            · rw [if_pos h]
            · rw [if_neg h]
              exact (Int32.le_antisymm (Int32.not_lt.mp h) (Int32.not_lt.mp (nI_pos (by omega)))).symm
          rw [m1, m2, if_pos rfl]
          exact IH _ _ _ _ _ _ _ hk6 ⟨rfl, rfl, hRR, hu', hA', Or.inr ⟨by omega, c, c, hc, hc, rfl, rfl, by rw [ite_self]⟩⟩
        · have m2 : imax (nI b') (nI c) = nI (max b' c) := by
            unfold imax
            by_cases h : nI b' < nI c
            · have := (nI_ltI (by omega) (by omega)).mp h
              rw [if_pos h, show max b' c = c from by omega]
            · have : ¬ b' < c := fun q => h (nI_lt q (by omega))
              rw [if_neg h, show max b' c = b' from by omega]
          have m1 := imin_nI (a := a') (b := c) (by omega) (by omega)
          have hne : ¬ (if m = true then nI b' else nI a') = -1 := by
            split <;> exact nI_m1 (by omega)
          rw [if_neg hne]
          refine IH _ _ _ _ _ _ _ hk6 ⟨rfl, rfl, hRR, hu', hA', Or.inr ⟨by omega, min a' c, max b' c, by omega, by omega, m1, m2, ?_⟩⟩
          cases m with
          | true => simp only [if_true]; rw [imax_gr]
          | false => simp only [Bool.false_eq_true, if_false]; rw [imin_le]
      · have hk6 : k = 6 := by
          have : ¬ k < 6 := fun q => hge (e6.mpr q)
          omega
        rcases hb with ⟨q, -⟩ | ⟨-, a', b', -, -, -, -, rfl⟩
        · omega
        · exact r2_some ⟨rfl, hRs, hz⟩
    obtain ⟨a, b, ea, eb, q1, q2, q3⟩ := key
    rw [ea, eb]
    refine ⟨(.inr (if m = true then a.2.1 else a.1), a.2.2.2), (b.1, b.2.2), rfl, rfl, ?_, q2⟩
    rw [q1]
    exact sx_ok q3

/-! LAYER 2: WEEKS -/
theorem week_in {x : Int32} (h : inR x 9999) : inR (imin 9999 (x + 1)) 9999 := by
  obtain ⟨a, ha, rfl⟩ := h
  rw [nI_1, show (9999 : Int32) = nI 9999 from rfl, imin_nI (by omega) (by omega)]
  exact inR_nI (by omega)
/-- one week of both: the class's own text, cut out of its loop -/
def stepC (w : St) (v : Nat) (b : Bool) : Option St :=
  Option.bind (ag w (v + 7) 4 (fmod (w v 12) 4)) fun x17_ =>
  Option.bind (q0_feedOthers (up w v 11 (imin 9999 ((w v 11) + x17_))) v) fun x21_ =>
  Option.bind (q0_giveLastLoaf x21_ v) fun x23_ =>
  Option.bind (q0_seatStarved x23_ v) fun x25_ =>
  Option.bind (if b = true then (Option.bind (q0_holdSpeech x25_ v) fun x34_ => some (x34_)) else (some (x25_))) fun y27_ =>
  some (up y27_ v 12 (imin 9999 ((y27_ v 12) + 1)))
theorem step_ok {LR : LRT} {fav : FavT} {ab : AbsT} (L : LawF LR fav ab) {v n : Nat} {σ μ : St} (hv : v = 44 ∨ v = 54) (h : Wk v n σ μ) (hL : LR (σ 32 3) (σ 32 4) (σ 33) (μ 1 1) (μ 1 2) (fun k => μ 1 (352 + k))) (b : Bool) : R2 (stepC σ v b) (q12_passes μ b) (fun a y => Wk v n a y.2 ∧ Fw v σ μ a y.2 ∧ y.1 = bcount (a v 10) - bcount (σ v 10) ∧ ∀ p, p < 6 → q11_isIn (σ v 10) (nI p) = true → q11_isIn (a v 10) (nI p) = true) := by
  have hn := h.1.1.1
  unfold stepC q12_passes
  dsimp only [lt]
  obtain ⟨g, eg, a1, z1, ea1, ez1, hw1, hf1, h1⟩ := feeds_ok hv h
  refine r2_L eg ?_
  refine r2_L ea1 ?_
  refine r2_R ez1 ?_
  obtain ⟨a2, z2, ea2, ez2, hw2, hf2, h2⟩ := loaf_ok L hv hw1 (hf1.law hv hL)
  refine r2_L ea2 ?_
  refine r2_R ez2 ?_
  obtain ⟨a3, y3, ea3, ez3, hw3, hf3, h3, hm3⟩ := seat_ok hv hw2
  refine r2_L ea3 ?_
  refine r2_R ez3 ?_
  have key : R2 (if b = true then (Option.bind (q0_holdSpeech a3 v) fun x34_ => some (x34_)) else (some (a3))) (if b = true then (Option.bind (q12_speaks y3.2.2) fun x52_ => some (x52_)) else (some (y3.2.2))) (fun a z => Wk v n a z ∧ Fw v a3 y3.2.2 a z ∧ a v 10 = a3 v 10) := by
    cases b with
    | true =>
      obtain ⟨a4, z4, ea4, ez4, q⟩ := speech_ok hv hw3
      rw [if_pos rfl, if_pos rfl, ea4, ez4]
      exact r2_some q
    | false =>
      rw [if_neg (by decide), if_neg (by decide)]
      exact r2_some ⟨hw3, Fw.rfl', rfl⟩
  obtain ⟨a4, z4, ea4, ez4, hw4, hf4, h4⟩ := key
  refine r2_L ea4 ?_
  refine r2_R ez4 ?_
  refine r2_R (ag_m (j := 4) (k := 4) rfl (by decide)) ?_
  refine r2_R (sa_nI (j := 4) (k := 4) rfl (by decide) (by decide)) ?_
  have e12 : a4 v 12 = z4 1 4 := hw4.1.2.2.2.2.2.1.2.1
  rw [e12, ← imin_le]
  have hf := ((hf1.tr hf2).tr hf3).tr hf4
  have p1 := Wk.put0 (k := 12) (l := 4) (x := imin 9999 (z4 1 4 + 1)) (y := imin 9999 (z4 1 4 + 1)) (n := n) hf hv (by omega) (by omega) (by omega) hw4.1.uWe (hw4.2.uWe hn (week_in hw4.2.2.2.2.2.1))
  refine r2_some ⟨p1.1, p1.2, ?_, fun p hp hi => ?_⟩
  · dsimp only
    rw [up_off (by decide), h4, h3, h2, h1]
  · rw [up_off (by decide), h4]
    exact hm3 p hp (by rw [h2, h1]; exact hi)
theorem bake_ok {LR : LRT} {fav : FavT} {ab : AbsT} (L : LawF LR fav ab) {v n : Nat} {σ μ : St} (hv : v = 44 ∨ v = 54) (h : Wk v n σ μ) (hL : LR (σ 32 3) (σ 32 4) (σ 33) (μ 1 1) (μ 1 2) (fun k => μ 1 (352 + k))) {N : Nat} (hN : N ≤ 10000) (b : Bool) : R2 (q0_bakeWeeks σ v (nI N) b) (q12_goes μ (nI N) b) (fun a y => Wk v n a y.2 ∧ Fw v σ μ a y.2 ∧ y.1 = bcount (a v 10) - bcount (σ v 10) ∧ ∀ p, p < 6 → q11_isIn (σ v 10) (nI p) = true → q11_isIn (a v 10) (nI p) = true) := by
  unfold q0_bakeWeeks q12_goes
  dsimp only [lt]
  refine r2_bind ?_
  refine lpR23 N (fun t p w c q z => p = nI t ∧ q = nI t ∧ Wk v n w z ∧ Fw v σ μ w z ∧ c = bcount (w v 10) - bcount (σ v 10) ∧ ∀ p, p < 6 → q11_isIn (σ v 10) (nI p) = true → q11_isIn (w v 10) (nI p) = true) ?_ fuelN fuelN 0 _ _ _ _ _ (Nat.zero_le _) (fuel_ok (by omega)) (fuel_ok (by omega)) ⟨rfl, rfl, h, Fw.rfl', by rw [Int32.sub_self], fun _ _ h => h⟩
  rintro F G t p w c q z ht ⟨rfl, rfl, hw, hf, rfl, hm⟩ IH
  refine r2_ite Iff.rfl (fun hlt => ?_) (fun _ => r2_some (r2_some ⟨hw, hf, rfl, hm⟩))
  have htn : t < N := (nI_ltI (by omega) (by omega)).mp hlt
  obtain ⟨a, y, ea, ey, q1, q2, q3, q4⟩ := step_ok L hv hw (hf.law hv hL) b
  have eB : ∀ (K : St → Option (Int32 × St)), (Option.bind (ag w (v + 7) 4 (fmod (w v 12) 4)) fun x17_ =>
  Option.bind (q0_feedOthers (up w v 11 (imin 9999 ((w v 11) + x17_))) v) fun x21_ =>
  Option.bind (q0_giveLastLoaf x21_ v) fun x23_ =>
  Option.bind (q0_seatStarved x23_ v) fun x25_ =>
  Option.bind (if b = true then (Option.bind (q0_holdSpeech x25_ v) fun x34_ => some (x34_)) else (some (x25_))) fun y27_ =>
  K (up y27_ v 12 (imin 9999 ((y27_ v 12) + 1)))) = Option.bind (stepC w v b) K := fun K => by
    unfold stepC
    simp only [Option.bind_assoc, Option.bind_some]
  rw [eB (fun s => F (nI t + 1) s), ea, ey]
  simp only [Option.bind_some]
  rw [nI_1]
  exact IH _ _ _ _ _ htn ⟨rfl, rfl, q1, hf.tr q2, by rw [q3, sub_tel], fun p hp hi => q4 p hp (hm p hp hi)⟩
theorem RR.wk {LR : LRT} {σ μ σ' μ' : St} {n : Nat} (h : RR LR σ μ) (hw : Wk 44 n σ' μ') (f : Fw 44 σ μ σ' μ') : RR LR σ' μ' := by
  have hL := f.law (LR := LR) (Or.inl rfl) h.2.2.2.2.2
  obtain ⟨h1, h2, h3, h4, h5, h6⟩ := h
  obtain ⟨f1, f2, f3, f4, f5, f6⟩ := f
  refine ⟨⟨n, hw⟩, ?_, ?_, ?_, ?_, hL⟩
  · unfold RTe at h2 ⊢
    rw [f1 1 (by omega) (by omega) (by decide) (by decide) (by decide), f1 2 (by omega) (by omega) (by decide) (by decide) (by decide), f4 8 (by omega), f3 5 (by decide) (by decide) (by decide) (by decide)]
    exact h2
  · rw [f1 0 (by omega) (by omega) (by decide) (by decide) (by decide), f4 12 (by omega)]; exact h3
  · unfold RAe at h4 ⊢
    rw [f1 5 (by omega) (by omega) (by decide) (by decide) (by decide), f4 6 (by omega), f3 4 (by decide) (by decide) (by decide) (by decide), f5 1 (by omega), f5 2 (by omega)]
    obtain ⟨A, f, a1, a2, a3, a4, a5, a6⟩ := h4
    refine ⟨A, f, a1, a2, a3, a4, a5, fun a ha => ⟨(a6 a ha).1.to ?_, (a6 a ha).2⟩⟩
    generalize (f + 12 - A + a) % 12 = j
    refine ⟨?_, ?_, ?_, ?_, ?_, ?_, ?_⟩ <;> intros <;> (try show σ' _ _ = σ _ _) <;> rw [f1 _ (by omega) (by omega) (by omega) (by omega) (by omega)]
  · unfold RIe at h5 ⊢
    rw [f1 0 (by omega) (by omega) (by decide) (by decide) (by decide), f1 40 (by omega) (by omega) (by decide) (by decide) (by decide), f1 41 (by omega) (by omega) (by decide) (by decide) (by decide), f4 3 (by omega), f3 2 (by decide) (by decide) (by decide) (by decide)]
    refine ⟨f6 h5.1, h5.2.imp id (fun q => ⟨q.1, q.2.1, q.2.2.1.to ?_, q.2.2.2⟩)⟩
    refine ⟨?_, ?_, ?_, ?_, ?_, ?_, ?_⟩ <;> intros <;> (try show σ' _ _ = σ _ _) <;> rw [f1 _ (by omega) (by omega) (by omega) (by omega) (by omega)]
theorem num_le {x hi : Int32} {M : Nat} (hM : hi.toInt = M) (h1 : 0 ≤ x) (h2 : x ≤ hi) : ∃ k, k ≤ M ∧ x = nI k := by
  obtain ⟨k, hk, e⟩ := nI_of2 (x := x) (M := hi) (n := M) hM (fun h => Int32.lt_irrefl (Int32.lt_of_lt_of_le h h1)) h2
  exact ⟨k, by omega, e⟩
theorem op_weeks {LR : LRT} {fav : FavT} {ab : AbsT} (L : LawF LR fav ab) : Op_weeks (RR LR) := by
  intro σ μ hR x
  unfold q11_weeks q12_weeks
  dsimp only [lt]
  rcases num_cases x 1 60 with ⟨h1, h2⟩ | ⟨h1, h2, h3, h4⟩
  · rw [h1, h2]
    exact ⟨(.inl 0, σ), (0, up μ 0 0 1), rfl, by simp only [Bool.false_eq_true, not_false_eq_true, if_true, up_at, if_pos lt01], sx_thr (i := 0) (by decide) (by decide) rfl, hR.t0⟩
  · rw [h1, h2]
    obtain ⟨N, hN, rfl⟩ := num_le (M := 60) (by decide) (Int32.le_trans (by decide) h3) h4
    simp only [not_true_eq_false, if_false, up_at, if_neg lt0]
    obtain ⟨σ1, μ1, e1, e2, hR1, k1, k2, k3⟩ := rem_ok (hR.t0 (x := 0))
    obtain ⟨n, -, hV, hW⟩ := hR1.nn
    obtain ⟨a, y, ea, ey, q1, q2, q3, -⟩ := bake_ok L (Or.inl rfl) ⟨hV, hW⟩ hR1.2.2.2.2.2 (N := N) (by omega) true
    rw [e2]
    simp only [Option.bind_some]
    rw [ey]
    refine ⟨(.inr (bcount (a 44 10) - bcount (σ1 44 10)), a), (y.1, y.2), ?_, rfl, ?_, hR1.wk q1 q2⟩
    · show Option.bind (q4_remember σ 44) _ = _
      rw [e1]
      show Option.bind (q0_bakeWeeks σ1 44 (nI N) true) _ = _
      rw [ea]
      rfl
    · rw [← q3]
      exact sx_ok (by rw [q2.2.2.2.1 0 (by omega), k3 0 (by decide), up_at])

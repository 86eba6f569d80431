/-! LAYER 2: LASTS, STARVES -/
theorem lpR23x {A1 A2 B1 B2 B3 R S : Type} {f : (A1 → A2 → Option R) → A1 → A2 → Option R} {g : (B1 → B2 → B3 → Option S) → B1 → B2 → B3 → Option S} {Q : R → S → Prop} (e : Nat) (I : Nat → A1 → A2 → B1 → B2 → B3 → Prop) (J : B1 → B2 → B3 → Prop) (r : B1 → B2 → B3 → S) (hJ : ∀ (v : B1 → B2 → B3 → Option S) (d1 : B1) (d2 : B2) (d3 : B3), J d1 d2 d3 → g v d1 d2 d3 = some (r d1 d2 d3)) (h : ∀ (u : A1 → A2 → Option R) (v : B1 → B2 → B3 → Option S) (n : Nat) (a1 : A1) (a2 : A2) (b1 : B1) (b2 : B2) (b3 : B3), n ≤ e → I n a1 a2 b1 b2 b3 → (∀ (c1 : A1) (c2 : A2) (d1 : B1) (d2 : B2) (d3 : B3), n < e → I (n + 1) c1 c2 d1 d2 d3 → R2 (u c1 c2) (v d1 d2 d3) Q) → (∀ (d1 : B1) (d2 : B2) (d3 : B3), n < e → J d1 d2 d3 → v d1 d2 d3 = some (r d1 d2 d3)) → R2 (f u a1 a2) (g v b1 b2 b3) Q) : ∀ (N M n : Nat) (a1 : A1) (a2 : A2) (b1 : B1) (b2 : B2) (b3 : B3), n ≤ e → e - n < N → e - n < M → I n a1 a2 b1 b2 b3 → R2 (loop2 f N a1 a2) (loop3 g M b1 b2 b3) Q
  | 0, M, n, a1, a2, b1, b2, b3, _, hN, _, _ => absurd hN (Nat.not_lt_zero _)
  | N + 1, 0, n, a1, a2, b1, b2, b3, _, _, hM, _ => absurd hM (Nat.not_lt_zero _)
  | N + 1, M + 1, n, a1, a2, b1, b2, b3, hn, hN, hM, hI => h _ _ n a1 a2 b1 b2 b3 hn hI (fun c1 c2 d1 d2 d3 hlt hI2 => lpR23x e I J r hJ h N M (n + 1) c1 c2 d1 d2 d3 hlt (by omega) (by omega) hI2) (fun d1 d2 d3 hlt hj => by
    obtain ⟨M', rfl⟩ : ∃ M', M = M' + 1 := ⟨M - 1, by omega⟩
    exact hJ _ d1 d2 d3 hj)
theorem bake1_ok {LR : LRT} {fav : FavT} {ab : AbsT} (L : LawF LR fav ab) {v n : Nat} {σ μ : St} (hv : v = 44 ∨ v = 54) (h : Wk v n σ μ) (hL : LR (σ 32 3) (σ 32 4) (σ 33) (μ 1 1) (μ 1 2) (fun k => μ 1 (352 + k))) (b : Bool) : R2 (q0_bakeWeeks σ v 1 b) (q12_passes μ b) (fun a y => Wk v n a y.2 ∧ Fw v σ μ a y.2 ∧ y.1 = bcount (a v 10) - bcount (σ v 10) ∧ ∀ p, p < 6 → q11_isIn (σ v 10) (nI p) = true → q11_isIn (a v 10) (nI p) = true) := by
  obtain ⟨a, y, ea, ey, q⟩ := step_ok L hv h hL b
  have hb : Wo (q0_bakeWeeks σ v 1 b) (fun r => r = a) := by
    unfold q0_bakeWeeks
    dsimp only [lt]
    refine wo_bind ?_
    refine lpW2 1 (fun t p w => p = nI t ∧ w = if t = 0 then σ else a) ?_ fuelN 0 _ _ (Nat.zero_le _) (fuel_ok (by omega)) ⟨rfl, rfl⟩
    rintro rec t p w ht ⟨rfl, rfl⟩ IH
    by_cases h0 : t = 0
    · subst h0
      rw [if_pos (show nI 0 < 1 by decide)]
      have eB : ∀ (K : St → Option (Int32 × St)), (Option.bind (ag σ (v + 7) 4 (fmod (σ v 12) 4)) fun x17_ =>
  Option.bind (q0_feedOthers (up σ v 11 (imin 9999 ((σ v 11) + x17_))) v) fun x21_ =>
  Option.bind (q0_giveLastLoaf x21_ v) fun x23_ =>
  Option.bind (q0_seatStarved x23_ v) fun x25_ =>
  Option.bind (if b = true then (Option.bind (q0_holdSpeech x25_ v) fun x34_ => some (x34_)) else (some (x25_))) fun y27_ =>
  K (up y27_ v 12 (imin 9999 ((y27_ v 12) + 1)))) = Option.bind (stepC σ v b) K := fun K => by
        unfold stepC
        simp only [Option.bind_assoc, Option.bind_some]
      simp only [if_true]
      rw [eB (fun s => rec (nI 0 + 1) s), ea]
      simp only [Option.bind_some]
      exact IH _ _ (by omega) ⟨by rw [nI_1], by rw [if_neg (by omega)]⟩
    · have h1 : t = 1 := by omega
      subst h1
      rw [if_neg (show ¬ nI 1 < 1 by decide)]
      refine wo_some (wo_some ?_)
      dsimp only
      rw [if_neg (by omega)]
  obtain ⟨r, er, rfl⟩ := hb
  exact ⟨r, y, er, ey, q⟩
theorem Fw.mix {v : Nat} {σ μ σ1 μ1 σ2 μ2 : St} (h : Fw v σ μ σ1 μ1) (h' : Fw v σ1 μ1 σ2 μ2) : Fw v σ μ σ1 μ2 := ⟨h.1, h.2.1, (h.tr h').2.2.1, (h.tr h').2.2.2.1, (h.tr h').2.2.2.2⟩
theorem op_lasts {LR : LRT} {fav : FavT} {ab : AbsT} (L : LawF LR fav ab) : Op_lasts (RR LR) := by
  intro σ μ hR
  unfold q11_lasts q12_lasts
  dsimp only [lt]
  obtain ⟨u, eu, hRu, hA, u1, u0⟩ := aside_ok (hR.t0 (x := 0))
  obtain ⟨n, -, hV, hW⟩ := hRu.nn
  obtain ⟨s, es, hRs, hws, -⟩ := spare_ok hRu hV hW
  rw [es, eu]
  simp only [Option.bind_some]
  have key : R2 (loop2 (fun rec6_ (n9_ : Int32) (σ10_ : St) =>
  if n9_ ≤ 60 then
  if (σ10_ 54 11) = 0 then (some (Sum.inl (n9_, σ10_))) else
  Option.bind (q0_bakeWeeks σ10_ 54 1 false) fun x21_ =>
  rec6_ (n9_ + 1) x21_
  else (some (Sum.inr (n9_, σ10_)))) fuelN (0 : Int32) s) (loop3 (fun rec8_ (found11_ : Int32) (n12_ : Int32) (σ13_ : St) =>
  if (n12_ ≤ 60) ∧ (found11_ = (-1)) then
  Option.bind (Option.bind (ag σ13_ 1 752 5) fun x26_ =>
  if x26_ = 0 then (some (n12_)) else (some (found11_))) fun y21_ =>
  Option.bind (q12_passes σ13_ false) fun x30_ =>
  rec8_ y21_ (n12_ + 1) x30_.2
  else (some (found11_, n12_, σ13_))) fuelN (-1 : Int32) (0 : Int32) u) (fun (a : (Int32 × St) ⊕ (Int32 × St)) b => ∃ w, ((a = Sum.inl (b.1, w)) ∨ (b.1 = -1 ∧ ∃ c, a = Sum.inr (c, w))) ∧ Fw 54 s u w b.2.2) := by
    refine lpR23x 61 (fun t p w f q z => p = nI t ∧ q = nI t ∧ f = -1 ∧ Wk 54 n w z ∧ Fw 54 s u w z) (fun f _ _ => ¬ f = -1) (fun f q z => (f, q, z)) (fun v f q z hj => by rw [if_neg (fun h => hj h.2)]) ?_ fuelN fuelN 0 _ _ _ _ _ (Nat.zero_le _) (fuel_ok (by omega)) (fuel_ok (by omega)) ⟨rfl, rfl, rfl, hws, Fw.rfl'⟩
    rintro F G t p w f q z ht ⟨rfl, rfl, rfl, hw, hf⟩ IH HJ
    have e60 : nI t ≤ 60 ↔ t < 61 := by
      rw [← Int32.not_lt, show (60 : Int32) = nI 60 from rfl, nI_ltI (by omega) (by omega)]
      omega
    by_cases h60 : t < 61
    · rw [if_pos (e60.mpr h60), if_pos (show nI t ≤ 60 ∧ (-1 : Int32) = -1 from ⟨e60.mpr h60, rfl⟩)]
      obtain ⟨a, y, ea, ey, q1, q2, -, -⟩ := bake1_ok L (Or.inr rfl) hw (hf.law (LR := LR) (Or.inr rfl) hRs.2.2.2.2.2) false
      have e11 : w 54 11 = z 1 5 := hw.1.2.2.2.2.2.1.1
      rw [ag_m (μ := z) (j := 5) (k := 5) rfl (by decide), e11, ea, ey]
      simp only [Option.bind_some]
      by_cases h0 : z 1 5 = 0
      · rw [if_pos h0, if_pos h0]
        simp only [Option.bind_some]
        rw [HJ _ _ _ h60 (nI_m1 (by omega))]
        exact r2_some ⟨w, Or.inl rfl, hf.mix q2⟩
      · rw [if_neg h0, if_neg h0]
        simp only [Option.bind_some]
        rw [nI_1]
        exact IH _ _ _ _ _ h60 ⟨rfl, rfl, rfl, q1, hf.tr q2⟩
    · rw [if_neg (fun q => h60 (e60.mp q)), if_neg (fun q => h60 (e60.mp q.1))]
      exact r2_some ⟨w, Or.inr ⟨rfl, _, rfl⟩, hf⟩
  obtain ⟨a, b, ea, eb, w, hq, hf⟩ := key
  obtain ⟨u', eu', hRR, -, -, -⟩ := back_ok hRs hA hf
  rw [ea, eb]
  simp only [Option.bind_some]
  rw [eu']
  rcases hq with rfl | ⟨hb, c, rfl⟩
  · exact ⟨(b.1, w), (b.1, u'), rfl, rfl, rfl, hRR⟩
  · rw [hb]
    exact ⟨(-1, w), (-1, u'), rfl, rfl, rfl, hRR⟩
theorem cn_lt' {P Q : Nat → Bool} {n x : Nat} (h : ∀ k, k < n → P k = true → Q k = true) (hx : x < n) (hq : Q x = true) (hp : ¬ P x = true) : cn P n < cn Q n := by
  have e1 : cn P n = cn (fun k => P k && decide (k < n)) n := cn_congr (fun k hk => by rw [decide_eq_true hk, Bool.and_true])
  have e2 : cn Q n = cn (fun k => Q k && decide (k < n)) n := cn_congr (fun k hk => by rw [decide_eq_true hk, Bool.and_true])
  rw [e1, e2]
  refine cn_lt (fun k hk => ?_) (x := x) ?_ ?_ n hx
  · rw [Bool.and_eq_true, decide_eq_true_eq] at hk
    rw [Bool.and_eq_true, decide_eq_true_eq]
    exact ⟨h k hk.2 hk.1, hk.2⟩
  · rw [hq, decide_eq_true hx]; rfl
  · rw [Bool.and_eq_true]; exact fun q => hp q.1
/-- somebody new on the bench -/
theorem new_ok {n : Nat} {f f' : Nat → Bool} (hn : n ≤ 6) (hm : ∀ k, k < n → f k = true → f' k = true) : (0 < bcount (nI (bs f' n)) - bcount (nI (bs f n)) ↔ ¬ nI (bs f' n) = nI (bs f n)) ∧ (¬ nI (bs f' n) = nI (bs f n) → 0 < bs (fun p => f' p && !f p) n) := by
  have b1 := bs_le hn f
  have b2 := bs_le hn f'
  have ex : ¬ nI (bs f' n) = nI (bs f n) → ∃ x, x < n ∧ f' x = true ∧ ¬ f x = true := fun h => by
    refine Classical.byContradiction (fun q => h ?_)
    congr 1
    refine bs_congr (fun p hp => ?_)
    cases h1 : f' p with
    | true =>
      cases h2 : f p with
      | true => rfl
      | false => exact absurd ⟨p, hp, h1, by rw [h2]; decide⟩ q
    | false =>
      cases h2 : f p with
      | true => rw [hm p hp h2] at h1; cases h1
      | false => rfl
  refine ⟨⟨fun h q => ?_, fun h => ?_⟩, fun h => ?_⟩
  · rw [q, Int32.sub_self] at h
    exact Int32.lt_irrefl h
  · obtain ⟨x, x1, x2, x3⟩ := ex h
    have hl := cn_lt' hm x1 x2 x3
    have ht := cn_top (P := f') n
    rw [bcount_bs hn, bcount_bs hn, pk_sub (by omega)]
    exact nI_lt (a := 0) (by omega) (by omega)
  · obtain ⟨x, x1, x2, x3⟩ := ex h
    exact bs_pos x1 (by rw [x2, Bool.not_eq_true _ |>.mp x3]; rfl)
theorem op_starves {LR : LRT} {fav : FavT} {ab : AbsT} (L : LawF LR fav ab) : Op_starves (RR LR) := by
  intro σ μ hR who
  unfold q11_starves q12_starves
  dsimp only [lt]
  obtain ⟨n0, hN0, hV0, hW0⟩ := hR.nn
  have ht := those4 (μ := up μ 0 0 0) (n := n0) (by rw [up0_1]; exact hV0.1.2.2) hV0.1.1 (by rw [up0_1]; exact hW0)
  obtain ⟨u, eu, hRu, hA, u1, u0⟩ := aside_ok (hR.t0 (x := 0))
  have hV : RVd (vd σ 44) (u 1) n0 := by rw [u1, up0_1]; exact hV0
  have hW : WFm (u 1) n0 := by rw [u1, up0_1]; exact hW0
  obtain ⟨s, es, hRs, hws, hv44⟩ := spare_ok hRu hV hW
  rw [up0_1] at ht
  have ht' : q12_those (up μ 0 0 0) 4 = some (nI (bs (fB (u 1)) n0)) := by rw [u1, up0_1]; exact ht
  have s44 : s 44 10 = nI (bs (fB (u 1)) n0) := hv44.2.2.1.2
  have hn := hws.1.1.1
  rw [es, ht', eu]
  simp only [Option.bind_some]
  have key : R2 (loop2 (fun rec6_ (n9_ : Int32) (σ10_ : St) =>
  if n9_ ≤ 60 then
  Option.bind (q0_bakeWeeks σ10_ 54 1 false) fun x17_ =>
  if ¬ (x17_ 54 10) = (x17_ 44 10) then (Option.bind (if who = true then (Option.bind (q11_leastOf ((x17_ 54 10) &&& ((x17_ 44 10) ^^^ (-1)))) fun x29_ =>
  some x29_) else (some n9_)) fun x23_ =>
  some (Sum.inl (x23_, x17_))) else
  rec6_ (n9_ + 1) x17_
  else (some (Sum.inr (n9_, σ10_)))) fuelN (1 : Int32) s) (loop3 (fun rec10_ (found13_ : Int32) (n14_ : Int32) (σ15_ : St) =>
  if (n14_ ≤ 60) ∧ (found13_ = (-1)) then
  Option.bind (q12_passes σ15_ false) fun x23_ =>
  Option.bind (if 0 < x23_.1 then (Option.bind (if who = true then (Option.bind (q12_those x23_.2 4) fun x38_ =>
  Option.bind (q12_lowest (x38_ &&& ((nI (bs (fB (u 1)) n0)) ^^^ (-1)))) fun x40_ =>
  some x40_) else (some n14_)) fun x32_ =>
  some (x32_)) else (some (found13_))) fun y25_ =>
  rec10_ y25_ (n14_ + 1) x23_.2
  else (some (found13_, n14_, σ15_))) fuelN (-1 : Int32) (1 : Int32) u) (fun (a : (Int32 × St) ⊕ (Int32 × St)) b => ∃ w, ((a = Sum.inl (b.1, w)) ∨ (b.1 = -1 ∧ ∃ c, a = Sum.inr (c, w))) ∧ Fw 54 s u w b.2.2) := by
    refine lpR23x 60 (fun t p w f q z => p = nI (t + 1) ∧ q = nI (t + 1) ∧ f = -1 ∧ Wk 54 n0 w z ∧ Fw 54 s u w z ∧ w 54 10 = nI (bs (fB (u 1)) n0)) (fun f _ _ => ¬ f = -1) (fun f q z => (f, q, z)) (fun v f q z hj => by rw [if_neg (fun h => hj h.2)]) ?_ fuelN fuelN 0 _ _ _ _ _ (Nat.zero_le _) (fuel_ok (by omega)) (fuel_ok (by omega)) ⟨rfl, rfl, rfl, hws, Fw.rfl', hws.1.2.2.1.2⟩
    rintro F G t p w f q z ht ⟨rfl, rfl, rfl, hw, hf, hb⟩ IH HJ
    have e60 : nI (t + 1) ≤ 60 ↔ t < 60 := by
      rw [← Int32.not_lt, show (60 : Int32) = nI 60 from rfl, nI_ltI (by omega) (by omega)]
      omega
    by_cases h60 : t < 60
    · rw [if_pos (e60.mpr h60), if_pos ⟨e60.mpr h60, rfl⟩]
      obtain ⟨a, y, ea, ey, q1, q2, q3, q4⟩ := bake1_ok L (Or.inr rfl) hw (hf.law (LR := LR) (Or.inr rfl) hRs.2.2.2.2.2) false
      have hfa := hf.tr q2
      have a44 : a 44 10 = nI (bs (fB (u 1)) n0) := by rw [hfa.1 44 (by omega) (by omega) (by decide) (by decide) (by decide)]; exact s44
      obtain ⟨t1, t2⟩ := t_of q1
      have hmono : ∀ k, k < n0 → fB (u 1) k = true → fB (y.2 1) k = true := fun k hk h => by
        have := q4 k (by omega) (by rw [hb, isIn_bs hn hk]; exact h)
        rw [t1, isIn_bs hn hk] at this
        exact this
      obtain ⟨k1, k2⟩ := new_ok hn hmono
      rw [ea, ey]
      simp only [Option.bind_some]
      rw [q3, hb, t1, a44, run_bs hn]
      by_cases hne : nI (bs (fB (y.2 1)) n0) = nI (bs (fB (u 1)) n0)
      · rw [if_neg (not_not_intro hne), if_neg (fun q => k1.mp q hne)]
        simp only [Option.bind_some]
        rw [nI_1]
        exact IH _ _ _ _ _ h60 ⟨rfl, rfl, rfl, q1, hfa, by rw [t1]; exact hne⟩
      · rw [if_pos hne, if_pos (k1.mpr hne), t2]
        simp only [Option.bind_some]
        rw [run_bs hn]
        have hp := k2 hne
        have hbl := bs_le hn (fun p => fB (y.2 1) p && !fB (u 1) p)
        cases who with
        | true =>
          simp only [if_true]
          rw [least_ok _ hbl hp, lowest_ok _ hbl hp]
          simp only [Option.bind_some]
          have hlw := (lw_bs hn hp).1
          rw [HJ _ _ _ h60 (nI_m1 (by omega))]
          exact r2_some ⟨a, Or.inl rfl, hfa⟩
        | false =>
          simp only [Bool.false_eq_true, if_false, Option.bind_some]
          rw [HJ _ _ _ h60 (nI_m1 (by omega))]
          exact r2_some ⟨a, Or.inl rfl, hfa⟩
    · rw [if_neg (fun q => h60 (e60.mp q)), if_neg (fun q => h60 (e60.mp q.1))]
      exact r2_some ⟨w, Or.inr ⟨rfl, _, rfl⟩, hf⟩
  obtain ⟨a, b, ea, eb, w, hq, hf⟩ := key
  obtain ⟨u', eu', hRR, -, -, -⟩ := back_ok hRs hA hf
  rw [ea, eb]
  simp only [Option.bind_some]
  rw [eu']
  rcases hq with rfl | ⟨hb, c, rfl⟩
  · exact ⟨(b.1, w), (b.1, u'), rfl, rfl, rfl, hRR⟩
  · rw [hb]
    exact ⟨(-1, w), (-1, u'), rfl, rfl, rfl, hRR⟩

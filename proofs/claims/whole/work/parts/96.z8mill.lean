/-! LAYER 2: MILL, THE GRISTS -/
theorem fil_pl {σ : St} {i n a : Nat} {x : Int32} (h : a ≠ i) : fil σ i n x a = σ a := by unfold fil; rw [if_neg h]
theorem fil_in {σ : St} {i n k : Nat} {x : Int32} (h : k < n) : fil σ i n x i k = x := by unfold fil; rw [if_pos rfl, if_pos h]
theorem grist_ok {n g : Nat} {s u : St} (h : Wk 54 n s u) (hg : g ≤ 99) : Wo (loop2 (fun rec33_ (q36_ : Int32) (σ37_ : St) =>
  if q36_ < 4 then
  Option.bind (sa σ37_ 1 752 (10 + q36_) (nI g)) fun σ44_ =>
  rec33_ (q36_ + 1) σ44_
  else (some (q36_, σ37_))) fuelN (0 : Int32) u) (fun y => Wk 54 n (fil s (54 + 7) 4 (nI g)) y.2 ∧ Fw 54 s u (fil s (54 + 7) 4 (nI g)) y.2 ∧ ∀ k, k < 10 ∨ 13 < k → y.2 1 k = u 1 k) := by
  have hn := h.1.1.1
  refine lpW2 4 (fun t p z => p = nI t ∧ Wk 54 n (fil s (54 + 7) t (nI g)) z ∧ Fw 54 s u (fil s (54 + 7) t (nI g)) z ∧ ∀ k, k < 10 ∨ 13 < k → z 1 k = u 1 k) ?_ fuelN 0 _ _ (Nat.zero_le _) (fuel_ok (by omega)) ⟨rfl, by rw [fil_0]; exact h, by rw [fil_0]; exact Fw.rfl', fun _ _ => rfl⟩
  rintro rec t p z ht ⟨rfl, hw, hf, hk⟩ IH
  refine wo_ite (fun hlt => ?_) (fun hge => ?_)
  · have ht4 : t < 4 := (nI_ltI (b := 4) (by omega) (by omega)).mp hlt
    rw [sa_m (μ := z) (j := 10 + nI t) (k := 10 + t) (nI_add 10 t) (by omega), nI_1]
    simp only [Option.bind_some]
    have p1 := Wk.put (j := 7) (k := t) (l := 10 + t) (x := nI g) (y := nI g) (n := n) hf (Or.inr rfl) (by omega) (by omega) (by omega) (by omega) (hw.1.uG ht4) (hw.2.uG hn ht4 (inR_nI hg))
    rw [fil_up] at p1
    exact IH _ _ ht4 ⟨rfl, p1.1, p1.2, fun k hk' => by rw [up_off (by omega)]; exact hk k hk'⟩
  · have : t = 4 := by
      have : ¬ t < 4 := fun q => hge (nI_lt (b := 4) q (by omega))
      omega
    subst this
    refine wo_some ?_
    try dsimp only
    exact ⟨hw, hf, hk⟩
theorem mill_one {LR : LRT} {fav : FavT} {ab : AbsT} (L : LawF LR fav ab) {N g : Nat} {w z : St} (hN : N ≤ 60) (hg : g ≤ 99) (hR : RR LR w z) (hA : ∀ k, k < 352 → z 3 k = z 1 k) : ∃ s a y1 zg y u' n, q10_become w 54 44 = some s ∧ q0_bakeWeeks (fil s (54 + 7) 4 (nI g)) 54 (nI N) false = some a ∧ (loop2 (fun rec33_ (q36_ : Int32) (σ37_ : St) =>
  if q36_ < 4 then
  Option.bind (sa σ37_ 1 752 (10 + q36_) (nI g)) fun σ44_ =>
  rec33_ (q36_ + 1) σ44_
  else (some (q36_, σ37_))) fuelN (0 : Int32) z) = some (y1, zg) ∧ (loop3 (fun rec51_ (more54_ : Int32) (k55_ : Int32) (σ56_ : St) =>
  if (k55_ < nI N) ∧ (more54_ = 0) then
  Option.bind (q12_passes σ56_ false) fun x64_ =>
  rec51_ (more54_ + x64_.1) (k55_ + 1) x64_.2
  else (some (more54_, k55_, σ56_))) fuelN (0 : Int32) (0 : Int32) zg) = some y ∧ q12_comesBack y.2.2 = some u' ∧ RR LR a u' ∧ RR LR w u' ∧ (∀ k, k < 352 → u' 3 k = u' 1 k) ∧ u' 1 = z 1 ∧ u' 0 0 = z 0 0 ∧ (y.1 = 0 ↔ a 54 10 = a 44 10) ∧ Wk 54 n (fil s (54 + 7) 4 (nI g)) zg ∧ LR (fil s (54 + 7) 4 (nI g) 32 3) (fil s (54 + 7) 4 (nI g) 32 4) (fil s (54 + 7) 4 (nI g) 33) (zg 1 1) (zg 1 2) (fun k => zg 1 (352 + k)) ∧ (∀ k, k < 10 ∨ 13 < k → zg 1 k = z 1 k) ∧ a 44 10 = fil s (54 + 7) 4 (nI g) 54 10 := by
  obtain ⟨n, -, hV, hW⟩ := hR.nn
  obtain ⟨s, es, hRs, hws, hv44⟩ := spare_ok hR hV hW
  obtain ⟨⟨y1, zg⟩, eg, g1, g2, g3⟩ := grist_ok hws hg
  dsimp only at g1 g2 g3
  have hLg := g2.law (LR := LR) (Or.inr rfl) hRs.2.2.2.2.2
  obtain ⟨a, y, ea, ey, q1, q2⟩ := mill_wk L hN g1 hLg
  have hf := g2.tr q1
  obtain ⟨u', eu, r1, r2, r3, r4⟩ := back_ok hRs hA hf
  have a44 : a 44 10 = fil s (54 + 7) 4 (nI g) 54 10 := by
    rw [hf.1 44 (by omega) (by omega) (by decide) (by decide) (by decide), fil_pl (by decide)]
    exact hv44.2.2.1.2.trans hws.1.2.2.1.2.symm
  refine ⟨s, a, y1, zg, y, u', n, es, ea, eg, ey, eu, r1, ?_, r2, r3, r4 0 (by omega), by rw [a44]; exact q2, g1, hLg, g3, a44⟩
  obtain ⟨s', es', e1, e2⟩ := bec_ok (σ := w) (t := 54) (s := 44) (by omega)
  rw [es] at es'
  cases es'
  have ew : ∀ i, keepC i → w i = a i := fun i hi => by
    rw [hf.1 i (by unfold keepC at hi; omega) (by unfold keepC at hi; omega) (by unfold keepC at hi; omega) (by unfold keepC at hi; omega) (by unfold keepC at hi; omega)]
    exact (e2 i (by unfold keepC at hi; omega)).symm
  refine r1.sC ew ?_ ?_ ?_
  · rw [hf.1 1 (by omega) (by omega) (by decide) (by decide) (by decide), e2 1 (by omega)]
  · rw [hf.2.1 3 (by decide) (by decide), e2 32 (by omega)]
  · rw [hf.2.1 4 (by decide) (by decide), e2 32 (by omega)]
/-- a run with grist 6 from some stores of this row failed -/
def FL (LR : LRT) (N : Nat) (m : Nat → Int32) : Prop := ∃ n s z a, Wk 54 n s z ∧ LR (s 32 3) (s 32 4) (s 33) (z 1 1) (z 1 2) (fun k => z 1 (352 + k)) ∧ (∀ k, k < 10 ∨ 13 < k → z 1 k = m k) ∧ (∀ q, q < 4 → s (54 + 7) q = nI 6) ∧ q0_bakeWeeks s 54 (nI N) false = some a ∧ ¬ a 54 10 = s 54 10
theorem fl_two {LR : LRT} {fav : FavT} {ab : AbsT} (L : LawF LR fav ab) (LI : LawI fav ab) {n N g : Nat} {m : Nat → Int32} {s zg a : St} (hN : N ≤ 60) (hF : FL LR N m) (h6 : 6 ≤ g) (h9 : g ≤ 99) (h : Wk 54 n s zg) (hL : LR (s 32 3) (s 32 4) (s 33) (zg 1 1) (zg 1 2) (fun k => zg 1 (352 + k))) (hm : ∀ k, k < 10 ∨ 13 < k → zg 1 k = m k) (hg : ∀ q, q < 4 → s (54 + 7) q = nI g) (ea : q0_bakeWeeks s 54 (nI N) false = some a) : ¬ a 54 10 = s 54 10 := by
  obtain ⟨n', s', z', a', f1, f2, f3, f4, f5, f6⟩ := hF
  have en : n' = n := by
    have e1 : z' 1 3 = nI n' := f1.1.1.2.2
    have e2 : zg 1 3 = nI n := h.1.1.2.2
    rw [f3 3 (by omega)] at e1
    rw [hm 3 (by omega), e1] at e2
    exact (nI_eq (by have := f1.1.1.1; omega) (by have := h.1.1.1; omega)).mp e2
  subst en
  have em : ∀ k, k < 10 ∨ 13 < k → zg 1 k = z' 1 k := fun k hk => (hm k hk).trans (f3 k hk).symm
  have tw := TW.of f1.1 h.1 em
  have tx : TXt (z' 1) (zg 1) := ⟨em 1 (by omega), em 2 (by omega), fun k => em _ (by omega)⟩
  obtain ⟨b, c, eb, ec, q⟩ := two_bake L LI hN f1 h f2 hL tw tx f4 hg (by omega) (by omega) h6 h9
  rw [f5] at eb
  rw [ea] at ec
  cases eb
  cases ec
  rw [q.2.2.2.1, tw.2.2.2.1]
  exact f6
theorem op_mill {LR : LRT} {fav : FavT} {ab : AbsT} (L : LawF LR fav ab) (LI : LawI fav ab) : Op_mill (RR LR) := by
  intro σ μ hR x
  unfold q11_mill q12_mill
  dsimp only [lt]
  rcases num_cases x 1 60 with ⟨h1, h2⟩ | ⟨h1, h2, h3, h4⟩
  · rw [h1, h2]
    exact ⟨(.inl 0, σ), (0, up μ 0 0 1), rfl, by simp only [Bool.false_eq_true, not_false_eq_true, if_true, up_at, if_pos lt01], sx_thr (i := 0) (by decide) (by decide) rfl, hR.t0⟩
  · rw [h1, h2]
    obtain ⟨N, hN, rfl⟩ := num_le (M := 60) (by decide) (Int32.le_trans (by decide) h3) h4
    simp only [not_true_eq_false, if_false, up_at, if_neg lt0]
    obtain ⟨u, eu, hRu, hA, u1, u0⟩ := aside_ok (hR.t0 (x := 0))
    have u00 : u 0 0 = 0 := by rw [u0, up_at]
    rw [thn_n, eu]
    simp only [Option.bind_some]
    have key : R2 (loop2 (fun rec6_ (grist9_ : Int32) (σ10_ : St) =>
  if grist9_ ≤ 6 then
  Option.bind (q10_become σ10_ 54 44) fun x17_ =>
  Option.bind (q0_bakeWeeks (fil x17_ (54 + 7) 4 grist9_) 54 (nI N) false) fun x21_ =>
  if (x21_ 54 10) = (x21_ 44 10) then (some (Sum.inl ((Sum.inr grist9_ : Sum Nat Int32), x21_))) else
  rec6_ (grist9_ + 1) x21_
  else (some (Sum.inr (grist9_, σ10_)))) fuelN (0 : Int32) σ) (loop3 (fun rec17_ (found20_ : Int32) (g21_ : Int32) (σ22_ : St) =>
  if (g21_ ≤ 99) ∧ (found20_ = (-1)) then
  Option.bind (loop2 (fun rec33_ (q36_ : Int32) (σ37_ : St) =>
  if q36_ < 4 then
  Option.bind (sa σ37_ 1 752 (10 + q36_) g21_) fun σ44_ =>
  rec33_ (q36_ + 1) σ44_
  else (some (q36_, σ37_))) fuelN (0 : Int32) σ22_) fun y30_ =>
  Option.bind (loop3 (fun rec51_ (more54_ : Int32) (k55_ : Int32) (σ56_ : St) =>
  if (k55_ < nI N) ∧ (more54_ = 0) then
  Option.bind (q12_passes σ56_ false) fun x64_ =>
  rec51_ (more54_ + x64_.1) (k55_ + 1) x64_.2
  else (some (more54_, k55_, σ56_))) fuelN (0 : Int32) (0 : Int32) y30_.2) fun y48_ =>
  Option.bind (q12_comesBack y48_.2.2) fun x77_ =>
  rec17_ (if y48_.1 = 0 then g21_ else found20_) (g21_ + 1) x77_
  else (some (found20_, g21_, σ22_))) fuelN (-1 : Int32) (0 : Int32) u) (fun a b => ∃ w, ((a = Sum.inl (Sum.inr b.1, w)) ∨ (b.1 = -1 ∧ ∃ c, a = Sum.inr (c, w))) ∧ RR LR w b.2.2 ∧ b.2.2 0 0 = 0) := by
      refine lpR23z 7 200 (fun t p w f q z => p = nI t ∧ q = nI t ∧ f = -1 ∧ RR LR w z ∧ (∀ k, k < 352 → z 3 k = z 1 k) ∧ z 1 = u 1 ∧ z 0 0 = 0 ∧ (t = 7 → FL LR N (u 1))) (fun f _ _ => ¬ f = -1) (fun f q z => (f, q, z)) (fun v f q z hj => by rw [if_neg (fun h => hj h.2)]) ?_ ?_ fuelN fuelN 0 _ _ _ _ _ (by omega) (by unfold fuelN; omega) (by unfold fuelN; omega) ⟨rfl, rfl, rfl, hRu, hA, rfl, u00, fun h => absurd h (by decide)⟩
      · rintro F G t p w f q z ht ⟨rfl, rfl, rfl, hRw, hAz, hz1, hz0, -⟩ IH HJ
        have l6 : nI t ≤ 6 := nI_le (b := 6) (by omega) (by omega)
        have l99 : nI t ≤ 99 := nI_le (b := 99) (by omega) (by omega)
        rw [if_pos l6, if_pos ⟨l99, rfl⟩]
        obtain ⟨s, a, y1, zg, y, u', n, e1, e2, e3, e4, e5, q1, q2, q3, q4, q5, q6, q7, q8, q9, q10⟩ := mill_one L (g := t) hN (by omega) hRw hAz
        rw [e1, e3]
        simp only [Option.bind_some]
        rw [e2, e4]
        simp only [Option.bind_some]
        rw [e5]
        simp only [Option.bind_some]
        rw [nI_1]
        by_cases hs : a 54 10 = a 44 10
        · rw [if_pos hs, if_pos (q6.mpr hs), HJ _ _ _ (nI_m1 (by omega))]
          exact r2_some ⟨a, Or.inl rfl, q1, q5.trans hz0⟩
        · rw [if_neg hs, if_neg (fun h => hs (q6.mp h))]
          refine IH _ _ _ _ _ ⟨rfl, rfl, rfl, q1, q3, q4.trans hz1, q5.trans hz0, fun h7 => ?_⟩
          have h6 : t = 6 := by omega
          subst h6
          exact ⟨n, _, zg, a, q7, q8, fun k hk => by rw [q9 k hk, hz1], fun q hq => fil_in hq, e2, by rw [← q10]; exact hs⟩
      · rintro P M p w f q z hM ⟨rfl, rfl, rfl, hRw, hAz, hz1, hz0, hFL⟩
        have hF := hFL rfl
        rw [loop2_s, if_neg (show ¬ nI 7 ≤ 6 by decide)]
        refine r2_of (P := fun a => a = Sum.inr (nI 7, w)) (P' := fun b => b.1 = -1 ∧ RR LR w b.2.2 ∧ b.2.2 0 0 = 0) (wo_some rfl) ?_ (fun a b ha hb => ⟨w, Or.inr ⟨hb.1, _, ha⟩, hb.2⟩)
        refine lpW3 100 (fun t f q z => q = nI t ∧ f = -1 ∧ 7 ≤ t ∧ RR LR w z ∧ (∀ k, k < 352 → z 3 k = z 1 k) ∧ z 1 = u 1 ∧ z 0 0 = 0) ?_ M 7 _ _ _ (by omega) (by omega) ⟨rfl, rfl, Nat.le_refl _, hRw, hAz, hz1, hz0⟩
        rintro rec t f q z ht ⟨rfl, rfl, h7, hRw, hAz, hz1, hz0⟩ IH
        have l99 : nI t ≤ 99 ↔ t ≤ 99 := nI_leI (b := 99) (by omega) (by omega)
        by_cases ht9 : t ≤ 99
        · rw [if_pos ⟨l99.mpr ht9, rfl⟩]
          obtain ⟨s, a, y1, zg, y, u', n, e1, e2, e3, e4, e5, q1, q2, q3, q4, q5, q6, q7, q8, q9, q10⟩ := mill_one L (g := t) hN ht9 hRw hAz
          rw [e3]
          simp only [Option.bind_some]
          rw [e4]
          simp only [Option.bind_some]
          rw [e5]
          simp only [Option.bind_some]
          have hno := fl_two L LI hN hF (by omega) ht9 q7 q8 (fun k hk => by rw [q9 k hk, hz1]) (fun q hq => fil_in hq) e2
          rw [nI_1, if_neg (fun h => hno (by rw [← q10]; exact q6.mp h))]
          exact IH _ _ _ (by omega) ⟨rfl, rfl, by omega, q2, q3, q4.trans hz1, q5.trans hz0⟩
        · rw [if_neg (fun h => ht9 (l99.mp h.1))]
          refine wo_some ?_
          try dsimp only
          exact ⟨rfl, hRw, hz0⟩
    obtain ⟨a, b, ea, eb, w, hq, hRw, h00⟩ := key
    rw [ea, eb]
    simp only [Option.bind_some]
    rcases hq with rfl | ⟨hb, c, rfl⟩
    · exact ⟨(.inr b.1, w), (b.1, b.2.2), rfl, rfl, sx_ok h00, hRw⟩
    · rw [hb]
      exact ⟨(.inr (-1), w), (-1, b.2.2), rfl, rfl, sx_ok h00, hRw⟩

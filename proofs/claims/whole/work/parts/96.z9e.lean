/-! LAYER 2: BALLOTS HEARD -/
def gdP (m : Nat → Int32) (n : Nat) (Bt : Nat → Nat) (i : Nat) : Prop := Bt (2 * i) < n ∧ fRn m (Bt (2 * i)) = true ∧ Bt (2 * i + 1) ≤ 6
def GD (m : Nat → Int32) (n : Nat) (Bt : Nat → Nat) (t : Nat) : Prop := t % 2 = 0 ∧ t ≤ 40 ∧ ∀ i, i < t / 2 → gdP m n Bt i
theorem xI_le {Bt : Nat → Nat} {r : Nat} : ∀ T, (∀ i, i < T → Bt (2 * i + 1) ≤ 6) → xI Bt T r ≤ 6
  | 0, _ => Nat.zero_le _
  | T + 1, h => by
    rw [xI_s]
    split
    · exact h T (Nat.lt_succ_self _)
    · exact xI_le T (fun i hi => h i (by omega))
theorem DT.mv {V : Nat → Bool} {ok : Nat → Nat → Bool} {td : Nat → Bool} {x : Nat → Nat} {n : Nat} {σ s : St} (h : DT V ok td x n σ) (e : ∀ i, 21 ≤ i → i ≤ 26 → s i = σ i) : DT V ok td x n s := by
  obtain ⟨h1, h2, h3⟩ := h
  refine ⟨h1.mv (by rw [e 21 (by omega) (by omega)]) (by rw [e 21 (by omega) (by omega)]) (by rw [e 21 (by omega) (by omega)]) (e 22 (by omega) (by omega)) (e 23 (by omega) (by omega)) (e 24 (by omega) (by omega)), fun v t hv ht => ?_, fun v s hv hs => ?_⟩
  · rw [e 25 (by omega) (by omega)]; exact h2 v t hv ht
  · rw [e 26 (by omega) (by omega)]; exact h3 v s hv hs
theorem told_ok {w : St} {td : Nat → Bool} {x : Nat → Nat} {n : Nat} (hn : n ≤ 6) (h5 : w 21 5 = nI n) (h22 : ∀ r, r < n → w 22 r = tdV td x r) (hx : ∀ r, td r = false → x r = 0) (h6 : ∀ r, r < n → x r ≤ 6) : q7_votesTold w = some (nI (sm x n)) := by
  unfold q7_votesTold
  dsimp only [lt]
  have key : Wo (loop2 (fun rec4_ (sum7_ : Int32) (r8_ : Int32) =>
  if r8_ < (w 21 5) then
  Option.bind (ag w 22 6 r8_) fun x15_ =>
  rec4_ (sum7_ + (imax 0 x15_)) (r8_ + 1)
  else (some (sum7_, r8_))) fuelN (0 : Int32) (0 : Int32)) (fun y => y.1 = nI (sm x n)) := by
    refine lpW2 n (fun t a p => p = nI t ∧ a = nI (sm x t)) ?_ fuelN 0 _ _ (Nat.zero_le _) (fuel_ok (by omega)) ⟨rfl, rfl⟩
    rintro rec t a p ht ⟨rfl, rfl⟩ IH
    rw [h5]
    refine wo_ite (fun hlt => ?_) (fun hge => ?_)
    · have htn : t < n := (nI_ltI (by omega) (by omega)).mp hlt
      rw [ag_nI (σ := w) (i := 22) (n := 6) (j := nI t) (k := t) rfl (by omega) (by decide), h22 t htn]
      simp only [Option.bind_some]
      rw [tdV_max (hx t) (h6 t htn), nI_1, nI_add]
      exact IH _ _ htn ⟨rfl, rfl⟩
    · have : t = n := by
        have : ¬ t < n := fun q => hge (nI_lt q (by omega))
        omega
      subst this
      exact wo_some rfl
  obtain ⟨y, ey, hy⟩ := key
  rw [ey]
  simp only [Option.bind_some]
  rw [hy]
theorem hear_end {V : Nat → Bool} {w : St} {m : Nat → Int32} {Bt : Nat → Nat} {n T : Nat} (hn : n ≤ 6) (hV : RVd (vd w 44) m n) (w5 : w 21 5 = nI n) (w6 : w 21 6 = nI (bs V n)) (w8 : w 21 8 = 0) (w22 : ∀ r, r < n → w 22 r = tdV (tdI Bt T) (xI Bt T) r) (h67 : w 6 7 = nI (bs (fRn m) n)) (hall : ∀ i, i < T → gdP m n Bt i) : Wo (Option.bind (Option.bind (if agI Bt T = true then (Option.bind (q7_votesTold w) fun x66_ =>
  if x66_ ≤ (bcount (w 21 6)) then (some true) else (some false)) else (some false)) fun t63_ =>
  if t63_ = true then (Option.bind (q7_countWays w 44 (w 6 7)) fun x70_ =>
  some (x70_)) else (some (w))) fun y58_ =>
  some (true, y58_)) (fun r => r.1 = true ∧ (∀ i, i < 21 ∨ 26 < i → r.2 i = w i) ∧ r.2 21 5 = nI n ∧ r.2 21 6 = nI (bs V n) ∧ r.2 21 8 = nI (bW V (okB m) (finP Bt T) n n 0 (fun _ => 0)) ∧ (0 < bW V (okB m) (finP Bt T) n n 0 (fun _ => 0) → ∀ (s' : St), (∀ i, 21 ≤ i → i ≤ 26 → s' i = r.2 i) → ∀ p o, p < n → o < n → V p = true → q7_partOf s' (nI p) (nI o) = some (nI (bW V (okM (okB m) p o) (finP Bt T) n n 0 (fun _ => 0))))) := by
  have hx0 : ∀ r, tdI Bt T r = false → xI Bt T r = 0 := fun r h => xI_0 T h
  have hx6 : ∀ r, r < n → xI Bt T r ≤ 6 := fun r _ => xI_le T (fun i hi => (hall i hi).2.2)
  rw [told_ok (w := w) hn w5 w22 hx0 hx6, w6, bcount_bs hn, h67]
  simp only [Option.bind_some]
  have hct := cn_top (P := V) n
  have hsl : sm (xI Bt T) n ≤ 36 := by
    have h1 := smLe (f := xI Bt T) (g := fun _ => 6) (n := n) (fun k hk => hx6 k hk)
    have h2 := sm_le (f := fun _ => 6) (c := 6) (fun _ => Nat.le_refl _) n
    omega
  have lle := nI_leI (a := sm (xI Bt T) n) (b := cn V n) (by omega) (by omega)
  have zero : bW V (okB m) (finP Bt T) n n 0 (fun _ => 0) = 0 → Wo (some (true, w)) (fun r => r.1 = true ∧ (∀ i, i < 21 ∨ 26 < i → r.2 i = w i) ∧ r.2 21 5 = nI n ∧ r.2 21 6 = nI (bs V n) ∧ r.2 21 8 = nI (bW V (okB m) (finP Bt T) n n 0 (fun _ => 0)) ∧ (0 < bW V (okB m) (finP Bt T) n n 0 (fun _ => 0) → ∀ (s' : St), (∀ i, 21 ≤ i → i ≤ 26 → s' i = r.2 i) → ∀ p o, p < n → o < n → V p = true → q7_partOf s' (nI p) (nI o) = some (nI (bW V (okM (okB m) p o) (finP Bt T) n n 0 (fun _ => 0))))) := fun hz => by
    refine wo_some ?_
    try dsimp only
    refine ⟨rfl, fun _ _ => rfl, w5, w6, ?_, fun h => ?_⟩
    · rw [hz]; exact w8
    · rw [hz] at h; exact absurd h (Nat.lt_irrefl _)
  have hvc : vc V n 0 = cn V n := by
    have := vc_cn (V := V) n 0
    rw [Nat.zero_add] at this
    have c0 : cn V 0 = 0 := rfl
    omega
  cases hA : agI Bt T with
  | false =>
    simp only [Bool.false_eq_true, if_false, Option.bind_some]
    refine zero (bW_no (fun c => ?_) _ _ _)
    cases hf : finP Bt T c with
    | false => rfl
    | true => rw [ag_no hf T (Nat.le_refl _)] at hA; cases hA
  | true =>
    simp only [if_true]
    have hfin := fin_td (n := n) hA (fun i hi => (hall i hi).1)
    by_cases hle : sm (xI Bt T) n ≤ cn V n
    · rw [if_pos (lle.mpr hle)]
      simp only [Option.bind_some, if_true]
      have h64 : stp (xI Bt T) n ≤ 64 := by
        have h1 := stp_pow (x := xI Bt T) n
        have h2 : 2 ^ sm (xI Bt T) n ≤ 2 ^ 6 := Nat.pow_le_pow_right (by omega) (Nat.le_trans hle (Nat.le_trans hct hn))
        exact Nat.le_trans h1 h2
      obtain ⟨a, ea, a1, a2, a3⟩ := cways_ok (V := V) (td := tdI Bt T) (x := xI Bt T) (m := m) (σ := w) hV w5 w6 w22 hx0 hx6 h64
      rw [ea]
      have dg0 : ∀ r, dg (xI Bt T) 0 r = 0 := fun r => by unfold dg; rw [Nat.zero_div, Nat.zero_mod]
      have eW' : ∀ ok, aW V ok (tdI Bt T) (xI Bt T) n n 0 0 = bW V ok (finP Bt T) n n 0 (fun _ => 0) := fun ok => aW_bW hfin hx0 h64 n 0 0 (fun _ => 0) (stp_pos n) (fun r _ _ => (dg0 r).symm)
      refine wo_some ?_
      try dsimp only
      refine ⟨rfl, a3, a1.1.1, a1.1.2.1, ?_, fun _ s' hs' p o hp ho hVp => ?_⟩
      · rw [a2, eW']
      · rw [partOf_ok hn h64 hx6 (a1.mv hs') hp ho hVp, eW']
    · rw [if_neg (fun q => hle (lle.mp q))]
      simp only [Option.bind_some, Bool.false_eq_true, if_false]
      refine zero (bW_few (x := xI Bt T) (fun c hc => smLe (fun r hr => ?_)) _ _ _ ?_)
      · cases htd : tdI Bt T r with
        | true => rw [(hfin c).mp hc r hr htd]; exact Nat.le_refl _
        | false => rw [hx0 r htd]; exact Nat.zero_le _
      · have z0 : sm (fun _ => 0) n = 0 := sm_0 (fun _ _ => rfl)
        omega
set_option maxHeartbeats 400000 in
theorem hear_ok {V : Nat → Bool} {s : St} {m : Nat → Int32} {Bt : Nat → Nat} {n t : Nat} (hV : RVd (vd s 44) m n) (h69 : s 6 9 = nI (bs V n)) (h67 : s 6 7 = nI (bs (fRn m) n)) (h11 : s 1 1 = nI t) (ht : t ≤ 400) (hb : ∀ k, k < t → s 2 k = nI (Bt k) ∧ Bt k ≤ 255) : Wo (q7_hear s 44) (fun r => (∀ i, i < 21 ∨ 26 < i → r.2 i = s i) ∧ (r.1 = true ↔ GD m n Bt t) ∧ (GD m n Bt t → r.2 21 5 = nI n ∧ r.2 21 6 = nI (bs V n) ∧ r.2 21 8 = nI (bW V (okB m) (finP Bt (t / 2)) n n 0 (fun _ => 0)) ∧ (0 < bW V (okB m) (finP Bt (t / 2)) n n 0 (fun _ => 0) → ∀ (s' : St), (∀ i, 21 ≤ i → i ≤ 26 → s' i = r.2 i) → ∀ p o, p < n → o < n → V p = true → q7_partOf s' (nI p) (nI o) = some (nI (bW V (okM (okB m) p o) (finP Bt (t / 2)) n n 0 (fun _ => 0)))))) := by
  have hn := hV.1.1
  have h8 : s 44 8 = nI n := hV.1.2.1
  unfold q7_hear
  dsimp only [lt]
  rw [h8, up_pl (show (6 : Nat) ≠ 21 by decide), h69]
  have t5 : fil (up (up (up s 21 5 (nI n)) 21 6 (nI (bs V n))) 21 8 0) 22 6 (-1) 21 5 = nI n := by rw [fil_pl (by decide), up_off (by decide), up_off (by decide), up_at]
  have t6 : fil (up (up (up s 21 5 (nI n)) 21 6 (nI (bs V n))) 21 8 0) 22 6 (-1) 21 6 = nI (bs V n) := by rw [fil_pl (by decide), up_off (by decide), up_at]
  have t8 : fil (up (up (up s 21 5 (nI n)) 21 6 (nI (bs V n))) 21 8 0) 22 6 (-1) 21 8 = 0 := by rw [fil_pl (by decide), up_at]
  have t22 : ∀ r, r < 6 → fil (up (up (up s 21 5 (nI n)) 21 6 (nI (bs V n))) 21 8 0) 22 6 (-1) 22 r = -1 := fun r hr => fil_in hr
  have tf : ∀ i, i ≠ 21 → i ≠ 22 → fil (up (up (up s 21 5 (nI n)) 21 6 (nI (bs V n))) 21 8 0) 22 6 (-1) i = s i := fun i h1 h2 => by rw [fil_pl h2, up_pl h1, up_pl h1, up_pl h1]
  generalize fil (up (up (up s 21 5 (nI n)) 21 6 (nI (bs V n))) 21 8 0) 22 6 (-1) = τ at t5 t6 t8 t22 tf
  rw [tf 1 (by decide) (by decide), h11, show irm (nI t) 2 = nI (t % 2) from irm_nI (d := 2) (by omega) (by decide) (by decide)]
  have e40 := nI_ltI (a := 40) (b := t) (by omega) (by omega)
  have e0 : nI (t % 2) = 0 ↔ t % 2 = 0 := nI_0i (by omega)
  by_cases hbad : 40 < t ∨ ¬ t % 2 = 0
  · rw [if_pos (show 40 < nI t ∨ ¬ nI (t % 2) = 0 from hbad.imp (fun h => e40.mpr h) (fun h q => h (e0.mp q)))]
    refine wo_some ?_
    try dsimp only
    refine ⟨fun i hi => tf i (by omega) (by omega), ⟨fun h => (by cases h), fun h => ?_⟩, fun h => ?_⟩
    · have := h.1; have := h.2.1; omega
    · have := h.1; have := h.2.1; omega
  · rw [if_neg (show ¬ (40 < nI t ∨ ¬ nI (t % 2) = 0) from fun q => hbad (q.imp (fun h => e40.mp h) (fun h x => h (e0.mpr x))))]
    obtain ⟨T, hT⟩ : ∃ T, t = 2 * T := ⟨t / 2, by omega⟩
    have hT2 : t / 2 = T := by omega
    rw [hT2]
    have hgd : GD m n Bt t ↔ ∀ i, i < T → gdP m n Bt i := ⟨fun h i hi => h.2.2 i (by omega), fun h => ⟨by omega, by omega, fun i hi => h i (by omega)⟩⟩
    rw [hgd]
    refine wo_bind (wo_mono (Q := fun y => (∃ w, y = Sum.inl (false, w) ∧ (∀ i, i ≠ 22 → w i = τ i) ∧ ¬ ∀ i, i < T → gdP m n Bt i) ∨ ∃ w j, y = Sum.inr (agI Bt T, j, w) ∧ (∀ i, i ≠ 22 → w i = τ i) ∧ (∀ r, r < 6 → w 22 r = tdV (tdI Bt T) (xI Bt T) r) ∧ ∀ i, i < T → gdP m n Bt i) ?_ ?_)
    · refine lpW3 T (fun j a p w => p = nI (2 * j) ∧ a = agI Bt j ∧ (∀ i, i ≠ 22 → w i = τ i) ∧ (∀ r, r < 6 → w 22 r = tdV (tdI Bt j) (xI Bt j) r) ∧ ∀ i, i < j → gdP m n Bt i) ?_ fuelN 0 _ _ _ (Nat.zero_le _) (fuel_ok (by omega)) ⟨rfl, rfl, fun _ _ => rfl, t22, fun i hi => absurd hi (Nat.not_lt_zero _)⟩
      rintro rec j a p w hj ⟨rfl, rfl, wf, w22, hg⟩ IH
      rw [nI_1, wf 1 (by decide), tf 1 (by decide) (by decide), h11, hT]
      by_cases hjT : j < T
      · rw [if_pos (nI_lt (by omega) (by omega))]
        obtain ⟨b1, b2⟩ := hb (2 * j) (by omega)
        obtain ⟨b3, b4⟩ := hb (2 * j + 1) (by omega)
        rw [ag_nI (σ := w) (i := 2) (n := 400) (j := nI (2 * j)) (k := 2 * j) rfl (by omega) (by decide), ag_nI (σ := w) (i := 2) (n := 400) (j := nI (2 * j + 1)) (k := 2 * j + 1) rfl (by omega) (by decide), wf 2 (by decide), tf 2 (by decide) (by decide), b1, b3]
        simp only [Option.bind_some]
        rw [wf 21 (by decide), t5, wf 6 (by decide), tf 6 (by decide) (by decide), h67]
        have l1 := nI_leI (a := n) (b := Bt (2 * j)) (by omega) (by omega)
        have l2 := nI_ltI (a := 6) (b := Bt (2 * j + 1)) (by omega) (by omega)
        by_cases hgj : gdP m n Bt j
        · obtain ⟨g1, g2, g3⟩ := hgj
          rw [if_neg (show ¬ ((nI n ≤ nI (Bt (2 * j)) ∨ ¬ q11_isIn (nI (bs (fRn m) n)) (nI (Bt (2 * j))) = true) ∨ 6 < nI (Bt (2 * j + 1))) from fun q => by
            rcases q with (q | q) | q
            · have := l1.mp q; omega
            · rw [isIn_bs hn g1] at q; exact q g2
            · have := l2.mp q; omega)]
          have hx6 : xI Bt j (Bt (2 * j)) ≤ 6 := xI_le j (fun i hi => (hg i hi).2.2)
          rw [ag_nI (σ := w) (i := 22) (n := 6) (j := nI (Bt (2 * j))) (k := Bt (2 * j)) rfl (by omega) (by decide), w22 _ (by omega), sa_nI (σ := w) (i := 22) (n := 6) (j := nI (Bt (2 * j))) (k := Bt (2 * j)) rfl (by omega) (by decide)]
          simp only [Option.bind_some]
          have e2 : nI (2 * j) + 2 = nI (2 * (j + 1)) := nI_add (2 * j) 2
          have eA : (Option.bind (if agI Bt j = true then (if tdV (tdI Bt j) (xI Bt j) (Bt (2 * j)) = (-1) then (some true) else (if tdV (tdI Bt j) (xI Bt j) (Bt (2 * j)) = nI (Bt (2 * j + 1)) then (some true) else (some false))) else (some false)) fun t44_ =>
  if t44_ = true then (some true) else (some false)) = some (agI Bt (j + 1)) := by
            rw [agI_s]
            cases hA : agI Bt j with
            | false => rfl
            | true =>
              rw [if_pos rfl, Bool.true_and]
              unfold tdV
              cases htd : tdI Bt j (Bt (2 * j)) with
              | false =>
                rw [if_neg (show ¬ false = true by decide), if_pos rfl]
                rfl
              | true =>
                rw [if_pos rfl, if_neg (nI_m1 (by omega))]
                have ee := nI_eq (a := xI Bt j (Bt (2 * j))) (b := Bt (2 * j + 1)) (by omega) (by omega)
                by_cases hq : xI Bt j (Bt (2 * j)) = Bt (2 * j + 1)
                · rw [if_pos (ee.mpr hq), decide_eq_true hq]; rfl
                · rw [if_neg (fun q => hq (ee.mp q)), decide_eq_false hq]; rfl
          rw [eA, e2]
          simp only [Option.bind_some]
          refine IH _ _ _ hjT ⟨rfl, rfl, fun i hi => by rw [up_pl hi]; exact wf i hi, fun r hr => ?_, fun i hi => ?_⟩
          · unfold tdV
            rw [tdI_s, xI_s]
            by_cases e : r = Bt (2 * j)
            · rw [e, up_at, if_pos rfl, if_pos rfl, if_pos rfl]
            · have e' : ¬ Bt (2 * j) = r := fun q => e q.symm
              rw [up_off e, if_neg e', if_neg e']
              exact w22 r hr
          · by_cases e : i = j
            · subst e; exact ⟨g1, g2, g3⟩
            · exact hg i (by omega)
        · rw [if_pos (show ((nI n ≤ nI (Bt (2 * j)) ∨ ¬ q11_isIn (nI (bs (fRn m) n)) (nI (Bt (2 * j))) = true) ∨ 6 < nI (Bt (2 * j + 1))) from by
            by_cases q1 : n ≤ Bt (2 * j)
            · exact Or.inl (Or.inl (l1.mpr q1))
            · by_cases q2 : fRn m (Bt (2 * j)) = true
              · by_cases q3 : 6 < Bt (2 * j + 1)
                · exact Or.inr (l2.mpr q3)
                · exact absurd ⟨by omega, q2, by omega⟩ hgj
              · refine Or.inl (Or.inr ?_)
                rw [isIn_bs hn (show Bt (2 * j) < n by omega)]
                exact q2)]
          exact wo_some (Or.inl ⟨w, rfl, wf, fun h => hgj (h j hjT)⟩)
      · have e : j = T := by omega
        subst e
        rw [if_neg (nI_nlt (by omega) (by omega))]
        exact wo_some (Or.inr ⟨w, _, rfl, wf, w22, hg⟩)
    · rintro y (⟨w, rfl, wf, hno⟩ | ⟨w, j, rfl, wf, w22, hall⟩)
      · refine wo_some ?_
        try dsimp only
        refine ⟨fun i hi => ?_, ⟨fun h => (by cases h), fun h => absurd h hno⟩, fun h => absurd h hno⟩
        rw [wf i (by omega), tf i (by omega) (by omega)]
      · have hw := hear_end (V := V) (w := w) (m := m) (Bt := Bt) (n := n) (T := T) hn (hV.mv (fun j hj => by rw [wf _ (by omega), tf _ (by omega) (by omega)])) (by rw [wf 21 (by decide)]; exact t5) (by rw [wf 21 (by decide)]; exact t6) (by rw [wf 21 (by decide)]; exact t8) (fun r hr => w22 r (Nat.lt_of_lt_of_le hr hn)) (by rw [wf 6 (by decide), tf 6 (by decide) (by decide)]; exact h67) hall
        refine wo_mono hw (fun r hr => ⟨fun i hi => ?_, ⟨fun _ => hall, fun _ => hr.1⟩, fun _ => hr.2.2⟩)
        rw [hr.2.1 i hi, wf i (by rcases hi with hi | hi <;> omega), tf i (by rcases hi with hi | hi <;> omega) (by rcases hi with hi | hi <;> omega)]
theorem heard_ok {V : Nat → Bool} {μ u : St} {m : Nat → Int32} {Bt : Nat → Nat} {n t : Nat} (hn : n ≤ 6) (h3 : m 3 = nI n) (h08 : μ 0 8 = nI t) (eu : q12_looks (up μ 0 8 0) = some u) (h1 : u 1 = m) (h20 : u 0 20 = nI (bs V n)) (h21 : u 0 21 = nI (bs (fRn m) n)) (ht : t ≤ 400) (hb : ∀ k, k < t → u 5 k = nI (Bt k) ∧ Bt k ≤ 255) : Wo (q12_heard μ) (fun r => (∀ i, i ≠ 0 → i ≠ 8 → i ≠ 14 → i ≠ 15 → r.2 i = u i) ∧ (∀ k, k ≠ 32 → r.2 0 k = u 0 k) ∧ (r.1 = true ↔ GD m n Bt t) ∧ (GD m n Bt t → r.2 0 32 = nI (bW V (okB m) (finP Bt (t / 2)) n n 0 (fun _ => 0)) ∧ ∀ p o, p < n → o < n → V p = true → r.2 14 (7 * p + o) = nI (bW V (okM (okB m) p o) (finP Bt (t / 2)) n n 0 (fun _ => 0)))) := by
  unfold q12_heard
  dsimp only [lt]
  rw [h08, eu]
  simp only [Option.bind_some]
  rw [show irm (nI t) 2 = nI (t % 2) from irm_nI (d := 2) (by omega) (by decide) (by decide)]
  have e40 : nI t ≤ 40 ↔ t ≤ 40 := nI_leI (b := 40) (by omega) (by omega)
  have e0 : nI (t % 2) = 0 ↔ t % 2 = 0 := nI_0i (by omega)
  have key : Wo (loop2 (fun rec18_ (good21_ : Bool) (k22_ : Int32) =>
  if (k22_ < nI t) ∧ (good21_ = true) then
  Option.bind (Option.bind (Option.bind (ag u 5 400 k22_) fun x37_ =>
  Option.bind (ag u 1 752 3) fun x39_ =>
  if x37_ < x39_ then (Option.bind (ag u 5 400 k22_) fun x42_ =>
  if q12_isOf (u 0 21) x42_ = true then (Option.bind (ag u 5 400 (k22_ + 1)) fun x45_ =>
  if x45_ ≤ 6 then (some true) else (some false)) else (some false)) else (some false)) fun t35_ =>
  if t35_ = true then (some true) else (some false)) fun x30_ =>
  rec18_ x30_ (k22_ + 2)
  else (some (good21_, k22_))) fuelN (decide (nI (t % 2) = 0 ∧ nI t ≤ 40)) (0 : Int32)) (fun y => y.1 = true ↔ GD m n Bt t) := by
    by_cases hgood : t % 2 = 0 ∧ t ≤ 40
    · rw [decide_eq_true (show nI (t % 2) = 0 ∧ nI t ≤ 40 from ⟨e0.mpr hgood.1, e40.mpr hgood.2⟩)]
      obtain ⟨T, hT⟩ : ∃ T, t = 2 * T := ⟨t / 2, by omega⟩
      have hgd : GD m n Bt t ↔ ∀ i, i < T → gdP m n Bt i := ⟨fun h i hi => h.2.2 i (by omega), fun h => ⟨by omega, by omega, fun i hi => h i (by omega)⟩⟩
      rw [hgd]
      refine lpW2 T (fun j f k => k = nI (2 * j) ∧ (f = true ↔ ∀ i, i < j → gdP m n Bt i)) ?_ fuelN 0 _ _ (Nat.zero_le _) (fuel_ok (by omega)) ⟨rfl, fun _ i hi => absurd hi (Nat.not_lt_zero _), fun _ => rfl⟩
      rintro rec j f k hj ⟨rfl, hf⟩ IH
      cases f with
      | false =>
        rw [if_neg (fun q => (by cases q.2))]
        refine wo_some ?_
        try dsimp only
        exact ⟨fun h => (by cases h), fun h => hf.mpr (fun i hi => h i (by omega))⟩
      | true =>
        have hg := hf.mp rfl
        by_cases hjT : j < T
        · rw [if_pos ⟨nI_lt (by omega) (by omega), rfl⟩]
          obtain ⟨b1, b2⟩ := hb (2 * j) (by omega)
          obtain ⟨b3, b4⟩ := hb (2 * j + 1) (by omega)
          have e2 : nI (2 * j) + 2 = nI (2 * (j + 1)) := nI_add (2 * j) 2
          rw [nI_1, ag_nI (σ := u) (i := 5) (n := 400) (j := nI (2 * j)) (k := 2 * j) rfl (by omega) (by decide), ag_nI (σ := u) (i := 5) (n := 400) (j := nI (2 * j + 1)) (k := 2 * j + 1) rfl (by omega) (by decide), ag3, h1, h3, b1, b3, h21, e2]
          simp only [Option.bind_some]
          have l1 := nI_ltI (a := Bt (2 * j)) (b := n) (by omega) (by omega)
          have l2 : nI (Bt (2 * j + 1)) ≤ 6 ↔ Bt (2 * j + 1) ≤ 6 := nI_leI (b := 6) (by omega) (by omega)
          have fin : ∀ b : Bool, (b = true ↔ gdP m n Bt j) → Wo (rec b (nI (2 * (j + 1)))) (fun y => y.1 = true ↔ ∀ i, i < T → gdP m n Bt i) := fun b hb' => by
            refine IH _ _ hjT ⟨rfl, ?_⟩
            rw [hb']
            refine ⟨fun h i hi => ?_, fun h => h j (Nat.lt_succ_self _)⟩
            by_cases e : i = j
            · subst e; exact h
            · exact hg i (by omega)
          by_cases q1 : Bt (2 * j) < n
          · rw [if_pos (l1.mpr q1), isOf_isIn, isIn_bs hn q1]
            cases q2 : fRn m (Bt (2 * j)) with
            | false =>
              simp only [Bool.false_eq_true, if_false, Option.bind_some]
              exact fin false ⟨fun h => (by cases h), fun h => by have := h.2.1; rw [q2] at this; cases this⟩
            | true =>
              simp only [if_true]
              by_cases q3 : Bt (2 * j + 1) ≤ 6
              · rw [if_pos (l2.mpr q3)]
                simp only [Option.bind_some, if_true]
                exact fin true ⟨fun _ => ⟨q1, q2, q3⟩, fun _ => rfl⟩
              · rw [if_neg (fun q => q3 (l2.mp q))]
                simp only [Option.bind_some, Bool.false_eq_true, if_false]
                exact fin false ⟨fun h => (by cases h), fun h => absurd h.2.2 q3⟩
          · rw [if_neg (fun q => q1 (l1.mp q))]
            simp only [Option.bind_some, Bool.false_eq_true, if_false]
            exact fin false ⟨fun h => (by cases h), fun h => absurd h.1 q1⟩
        · have e : j = T := by omega
          subst e
          rw [if_neg (fun q => hjT (by have := (nI_ltI (by omega) (by omega)).mp q.1; omega))]
          exact wo_some hf
    · rw [decide_eq_false (fun q : nI (t % 2) = 0 ∧ nI t ≤ 40 => hgood ⟨e0.mp q.1, e40.mp q.2⟩)]
      refine lpW2 0 (fun _ f _ => f = false) ?_ fuelN 0 _ _ (Nat.zero_le _) (fuel_ok (by omega)) rfl
      rintro rec j f k _ rfl _
      rw [if_neg (fun h => (by cases h.2))]
      refine wo_some ?_
      try dsimp only
      exact ⟨fun h => (by cases h), fun h => absurd ⟨h.1, h.2.1⟩ hgood⟩
  obtain ⟨⟨g, k⟩, eg, hg⟩ := key
  dsimp only at hg
  rw [eg]
  simp only [Option.bind_some]
  cases g with
  | false =>
    have hno : ¬ GD m n Bt t := fun h => by cases hg.mpr h
    simp only [Bool.false_eq_true, if_false, Option.bind_some]
    refine wo_some ?_
    try dsimp only
    exact ⟨fun _ _ _ _ _ => rfl, fun _ _ => rfl, hg, fun h => absurd h hno⟩
  | true =>
    have hG := hg.mp rfl
    have eT : t = 2 * (t / 2) := by have := hG.1; omega
    simp only [if_true]
    obtain ⟨a, ea, a1, a2, a3, a4⟩ := counts_okB (V := V) (w := u) (m := m) (Bt := Bt) (T := t / 2) hn h1 h3 h20 h21 (by have := hG.2.1; omega) (fun k hk => (hb k (by omega)).1) (fun i hi => ⟨(hG.2.2 i hi).1, (hG.2.2 i hi).2.2⟩)
    rw [← eT] at ea
    rw [ea]
    refine wo_some ?_
    try dsimp only
    exact ⟨a4, a3, hg, fun _ => ⟨a1, a2⟩⟩

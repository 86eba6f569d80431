/-! LAYER 2: ONE ROW MORE IN THE LOG; WHAT A WEEK LEAVES ALONE -/
def Fw (v : Nat) (σ μ σ' μ' : St) : Prop := (∀ i, (i < 6 ∨ 12 < i) → (i < v ∨ v + 10 ≤ i) → i ≠ 32 → i ≠ 34 → i ≠ 35 → σ' i = σ i) ∧ (∀ k, k ≠ 5 → k ≠ 6 → σ' 32 k = σ 32 k) ∧ (∀ i, i ≠ 0 → i ≠ 1 → i ≠ 6 → i ≠ 7 → μ' i = μ i) ∧ (∀ k, k < 9 ∨ 21 < k ∨ k = 12 → μ' 0 k = μ 0 k) ∧ (∀ k, k = 1 ∨ k = 2 ∨ 352 ≤ k → μ' 1 k = μ 1 k) ∧ (RFl μ → RFl μ')
theorem Fw.rfl' {v : Nat} {σ μ : St} : Fw v σ μ σ μ := ⟨fun _ _ _ _ _ _ => rfl, fun _ _ _ => rfl, fun _ _ _ _ _ => rfl, fun _ _ => rfl, fun _ _ => rfl, id⟩
theorem Fw.tr {v : Nat} {σ μ σ' μ' σ2 μ2 : St} (h : Fw v σ μ σ' μ') (h' : Fw v σ' μ' σ2 μ2) : Fw v σ μ σ2 μ2 := ⟨fun i h1 h2 h3 h4 h5 => (h'.1 i h1 h2 h3 h4 h5).trans (h.1 i h1 h2 h3 h4 h5), fun k h1 h2 => (h'.2.1 k h1 h2).trans (h.2.1 k h1 h2), fun i h0 h1 h6 h7 => (h'.2.2.1 i h0 h1 h6 h7).trans (h.2.2.1 i h0 h1 h6 h7), fun k hk => (h'.2.2.2.1 k hk).trans (h.2.2.2.1 k hk), fun k hk => (h'.2.2.2.2.1 k hk).trans (h.2.2.2.2.1 k hk), fun q => h'.2.2.2.2.2 (h.2.2.2.2.2 q)⟩
def Wk (v n : Nat) (σ μ : St) : Prop := RVd (vd σ v) (μ 1) n ∧ WFm (μ 1) n
theorem Fw.law {LR : LRT} {v : Nat} {σ μ σ' μ' : St} (hv : v = 44 ∨ v = 54) (h : Fw v σ μ σ' μ') (hL : LR (σ 32 3) (σ 32 4) (σ 33) (μ 1 1) (μ 1 2) (fun k => μ 1 (352 + k))) : LR (σ' 32 3) (σ' 32 4) (σ' 33) (μ' 1 1) (μ' 1 2) (fun k => μ' 1 (352 + k)) := by
  have e9 : (fun k => μ' 1 (352 + k)) = (fun k => μ 1 (352 + k)) := funext (fun k => h.2.2.2.2.1 _ (by omega))
  rw [h.2.1 3 (by decide) (by decide), h.2.1 4 (by decide) (by decide), h.1 33 (by omega) (by omega) (by decide) (by decide) (by decide), h.2.2.2.2.1 1 (by omega), h.2.2.2.2.1 2 (by omega), e9]
  exact hL
/-- one cell of both -/
theorem Wk.put {v n : Nat} {σ μ σ' μ' : St} (f : Fw v σ μ σ' μ') {j k l : Nat} {x y : Int32} (hv : v = 44 ∨ v = 54) (hj : j < 10) (hl : l < 352) (h1 : l ≠ 1) (h2 : l ≠ 2) (hV : RVd (du (vd σ' v) j k x) (mu (μ' 1) l y) n) (hW : WFm (mu (μ' 1) l y) n) : Wk v n (up σ' (v + j) k x) (up μ' 1 l y) ∧ Fw v σ μ (up σ' (v + j) k x) (up μ' 1 l y) := by
  refine ⟨⟨?_, ?_⟩, f.tr ⟨fun i a b c d e => up_pl (by omega), fun k a b => by rw [up_pl (by omega)], fun i a b c d => up_pl b, fun k _ => by rw [up_pl (by decide)], fun k hk => up_off (by omega), fun q => q.eq (by rw [up_pl (by decide)]) (by rw [up_pl (by decide)]) (by rw [up_pl (by decide)])⟩⟩
  · rw [vd_du, up_mu]; exact hV
  · rw [up_mu]; exact hW
theorem Wk.put0 {v n : Nat} {σ μ σ' μ' : St} (f : Fw v σ μ σ' μ') {k l : Nat} {x y : Int32} (hv : v = 44 ∨ v = 54) (hl : l < 352) (h1 : l ≠ 1) (h2 : l ≠ 2) (hV : RVd (du (vd σ' v) 0 k x) (mu (μ' 1) l y) n) (hW : WFm (mu (μ' 1) l y) n) : Wk v n (up σ' v k x) (up μ' 1 l y) ∧ Fw v σ μ (up σ' v k x) (up μ' 1 l y) := Wk.put (j := 0) f hv (by omega) hl h1 h2 hV hW
/-- the log, one row more -/
theorem logC {w : St} {t f L : Nat} {wk a b c : Int32} (hf : f < 60) (hL : L ≤ 60) (h2 : w t 2 = nI f) (h1 : w t 1 = nI L) : Wo (q3_write w t wk a b c) (fun w' => (w' (t + 1) (4 * f) = wk ∧ w' (t + 1) (4 * f + 1) = a ∧ w' (t + 1) (4 * f + 2) = b ∧ w' (t + 1) (4 * f + 3) = c ∧ ∀ j, j < 4 * f ∨ 4 * f + 4 ≤ j → w' (t + 1) j = w (t + 1) j) ∧ w' t 2 = nI ((f + 1) % 60) ∧ w' t 1 = nI (min 60 (L + 1)) ∧ ∀ i, i ≠ t → i ≠ t + 1 → w' i = w i) := by
  unfold q3_write
  dsimp only [lt]
  rw [h2]
  have e0 : nI f * 4 = nI (4 * f) := by rw [show (4 : Int32) = nI 4 from rfl, pk_mul, Nat.mul_comm]
  have ej : ∀ j, nI (4 * f) + nI j = nI (4 * f + j) := fun j => nI_add _ _
  rw [e0]
  refine wo_st (sa_nI (k := 4 * f) rfl (by omega) (by decide)) ?_
  refine wo_st (sa_nI (k := 4 * f + 1) (ej 1) (by omega) (by decide)) ?_
  refine wo_st (sa_nI (k := 4 * f + 2) (ej 2) (by omega) (by decide)) ?_
  refine wo_st (sa_nI (k := 4 * f + 3) (ej 3) (by omega) (by decide)) ?_
  have et : ∀ {s : St} {j : Nat} {x : Int32}, up s (t + 1) j x t = s t := fun {s j x} => up_pl (by omega)
  refine wo_some ⟨⟨?_, ?_, ?_, ?_, fun j hj => ?_⟩, ?_, ?_, fun i h1 h2 => ?_⟩
  · rw [up_pl (by omega), up_pl (by omega), up_off (by omega), up_off (by omega), up_off (by omega), up_at]
  · rw [up_pl (by omega), up_pl (by omega), up_off (by omega), up_off (by omega), up_at]
  · rw [up_pl (by omega), up_pl (by omega), up_off (by omega), up_at]
  · rw [up_pl (by omega), up_pl (by omega), up_at]
  · rw [up_pl (by omega), up_pl (by omega), up_off (by omega), up_off (by omega), up_off (by omega), up_off (by omega)]
  · rw [up_off (by decide), up_at, et, et, et, et, h2, nI_1]
    exact irm_nI (d := 60) (by omega) (by decide) (by decide)
  · rw [up_at, up_off (by decide), et, et, et, et, h1, nI_1]
    exact imin_nI (a := 60) (by decide) (by omega)
  · rw [up_pl h1, up_pl h1, up_pl h2, up_pl h2, up_pl h2, up_pl h2]
theorem logM {z : St} {L : Nat} {a b c : Int32} (hL : L ≤ 60) (h8 : z 1 8 = nI L) : Wo (q12_logs z a b c) (fun z' => (z' 1 112 = z 1 4 ∧ z' 1 113 = a ∧ z' 1 114 = b ∧ z' 1 115 = c ∧ ∀ k, 116 ≤ k → k < 352 → z' 1 k = z 1 (k - 4)) ∧ z' 1 8 = nI (min 60 (L + 1)) ∧ (∀ k, k < 112 ∨ 352 ≤ k → k ≠ 8 → z' 1 k = z 1 k) ∧ ∀ i, i ≠ 1 → z' i = z i) := by
  unfold q12_logs
  dsimp only [lt]
  refine wo_bind (wo_mono (Q := fun y => (∀ k, 116 ≤ k → k < 352 → y.2 1 k = z 1 (k - 4)) ∧ (∀ k, k < 116 ∨ 352 ≤ k → y.2 1 k = z 1 k) ∧ ∀ i, i ≠ 1 → y.2 i = z i) ?_ ?_)
  · refine lpW2 236 (fun t p w => p = nI (239 - t) ∧ (∀ k, 352 - t ≤ k → k < 352 → w 1 k = z 1 (k - 4)) ∧ (∀ k, k < 352 - t ∨ 352 ≤ k → w 1 k = z 1 k) ∧ ∀ i, i ≠ 1 → w i = z i) ?_ fuelN 0 _ z (Nat.zero_le _) (fuel_ok (by omega)) ⟨rfl, fun k h1 h2 => by omega, fun _ _ => rfl, fun _ _ => rfl⟩
    rintro rec t p w ht ⟨rfl, w1, w2, w3⟩ IH
    have e4 : (4 : Int32) ≤ nI (239 - t) ↔ t < 236 := by
      rw [← Int32.not_lt, show (4 : Int32) = nI 4 from rfl, nI_ltI (by omega) (by omega)]
      omega
    refine wo_ite (fun hlt => ?_) (fun hge => ?_)
    · have htn := e4.mp hlt
      have e1 : (112 : Int32) + nI (239 - t) = nI (351 - t) := by
        rw [show (112 : Int32) = nI 112 from rfl, nI_add]
        congr 1
        omega
      have e2 : nI (351 - t) - 4 = nI (347 - t) := by
        have := pk_sub (a := 351 - t) (b := 4) (by omega)
        rw [show (4 : Int32) = nI 4 from rfl, this]
        congr 1
        omega
      have e3 : nI (239 - t) + -1 = nI (239 - (t + 1)) := by
        rw [← Int32.sub_eq_add_neg]
        have := nI_pred (239 - (t + 1))
        rw [show 239 - (t + 1) + 1 = 239 - t from by omega] at this
        exact this
      rw [e1, e2, e3]
      refine wo_st (ag_m (k := 347 - t) rfl (by omega)) ?_
      refine wo_st (sa_nI (k := 351 - t) rfl (by omega) (by decide)) ?_
      refine IH _ _ htn ⟨rfl, fun k h1 h2 => ?_, fun k hk => ?_, fun i hi => by rw [up_pl hi]; exact w3 i hi⟩
      · by_cases hk : k = 351 - t
        · subst hk
          rw [up_at, w2 _ (by omega)]
          congr 1
          omega
        · rw [up_off hk]; exact w1 k (by omega) h2
      · rw [up_off (by omega)]; exact w2 k (by omega)
    · have hte : t = 236 := by
        have : ¬ t < 236 := fun q => hge (e4.mpr q)
        omega
      subst hte
      exact wo_some ⟨fun k h1 h2 => w1 k (by omega) h2, fun k hk => w2 k (by omega), w3⟩
  · rintro ⟨p, y⟩ ⟨y1, y2, y3⟩
    dsimp only at y1 y2 y3 ⊢
    refine wo_st (ag_m (j := 4) (k := 4) rfl (by decide)) ?_
    refine wo_st (sa_nI (k := 112) rfl (by decide) (by decide)) ?_
    refine wo_st (sa_nI (k := 113) rfl (by decide) (by decide)) ?_
    refine wo_st (sa_nI (k := 114) rfl (by decide) (by decide)) ?_
    refine wo_st (sa_nI (k := 115) rfl (by decide) (by decide)) ?_
    refine wo_st (ag_m (j := 8) (k := 8) rfl (by decide)) ?_
    refine wo_st (sa_nI (k := 8) rfl (by decide) (by decide)) ?_
    refine wo_some ⟨⟨?_, ?_, ?_, ?_, fun k h1 h2 => ?_⟩, ?_, fun k h1 h2 => ?_, fun i hi => ?_⟩
    · rw [up_off (by decide), up_off (by decide), up_off (by decide), up_off (by decide), up_at]; exact y2 4 (by omega)
    · rw [up_off (by decide), up_off (by decide), up_off (by decide), up_at]
    · rw [up_off (by decide), up_off (by decide), up_at]
    · rw [up_off (by decide), up_at]
    · rw [up_off (by omega), up_off (by omega), up_off (by omega), up_off (by omega), up_off (by omega)]; exact y1 k h1 h2
    · rw [up_at, up_off (by decide), up_off (by decide), up_off (by decide), up_off (by decide), y2 8 (by omega), h8, nI_1, ← imin_le]
      exact imin_nI (a := 60) (by decide) (by omega)
    · rw [up_off h2, up_off (by omega), up_off (by omega), up_off (by omega), up_off (by omega)]; exact y2 k (by omega)
    · rw [up_pl hi, up_pl hi, up_pl hi, up_pl hi, up_pl hi]; exact y3 i hi
theorem logR {d d' : Nat → Nat → Int32} {m m' : Nat → Int32} {f L : Nat} {wk a b c : Int32} (hf : f < 60) (hL : L ≤ 60) (h6 : ∀ a c, a < L → c < 4 → d 9 (4 * ((f + 59 - a) % 60) + c) = m (112 + 4 * a + c)) (c1 : d' 9 (4 * f) = wk ∧ d' 9 (4 * f + 1) = a ∧ d' 9 (4 * f + 2) = b ∧ d' 9 (4 * f + 3) = c ∧ ∀ j, j < 4 * f ∨ 4 * f + 4 ≤ j → d' 9 j = d 9 j) (c2 : d' 8 2 = nI ((f + 1) % 60)) (c3 : d' 8 1 = nI (min 60 (L + 1))) (m1 : m' 112 = wk ∧ m' 113 = a ∧ m' 114 = b ∧ m' 115 = c ∧ ∀ k, 116 ≤ k → k < 352 → m' k = m (k - 4)) (m2 : m' 8 = nI (min 60 (L + 1))) : RLe d' m' := by
  refine ⟨min 60 (L + 1), (f + 1) % 60, by omega, by omega, c3, c2, m2, fun i j hi hj => ?_⟩
  by_cases h0 : i = 0
  · subst h0
    have e : ((f + 1) % 60 + 59 - 0) % 60 = f := by omega
    rw [e]
    rcases (show j = 0 ∨ j = 1 ∨ j = 2 ∨ j = 3 by omega) with rfl | rfl | rfl | rfl
    · exact c1.1.trans m1.1.symm
    · exact c1.2.1.trans m1.2.1.symm
    · exact c1.2.2.1.trans m1.2.2.1.symm
    · exact c1.2.2.2.1.trans m1.2.2.2.1.symm
  · have e : ((f + 1) % 60 + 59 - i) % 60 = (f + 59 - (i - 1)) % 60 := by omega
    have hne : (f + 59 - (i - 1)) % 60 ≠ f := by omega
    rw [e, c1.2.2.2.2 _ (by omega), h6 (i - 1) j (by omega) hj, m1.2.2.2.2 _ (by omega) (by omega)]
    congr 1
    omega
theorem Wk.log {v n : Nat} {σ μ w z : St} (hv : v = 44 ∨ v = 54) (h : Wk v n w z) (f : Fw v σ μ w z) (a b c : Int32) : R2 (q3_write w (v + 8) (w v 12) a b c) (q12_logs z a b c) (fun w' z' => Wk v n w' z' ∧ Fw v σ μ w' z' ∧ w' v = w v) := by
  obtain ⟨hV, hW⟩ := h
  obtain ⟨L, g, hL, hg, l3, l4, l5, l6⟩ := hV.2.2.2.2.2.2.2
  refine r2_of (logC (t := v + 8) (wk := w v 12) (a := a) (b := b) (c := c) hg hL l4 l3) (logM (a := a) (b := b) (c := c) hL l5) (fun w' z' hw hz => ?_)
  obtain ⟨w1, w2, w3, w4⟩ := hw
  obtain ⟨z1, z2, z3, z4⟩ := hz
  have e12 : w v 12 = z 1 4 := hV.2.2.2.2.2.1.2.1
  rw [e12] at w1
  have hR := logR (d := vd w v) (d' := vd w' v) (m := z 1) (m' := z' 1) hg hL l6 w1 w2 w3 z1 z2
  have hk : ∀ k, k < 112 → k ≠ 8 → z' 1 k = z 1 k := fun k h1 h2 => z3 k (by omega) h2
  have hd : ∀ j, j < 8 → w' (v + j) = w (v + j) := fun j hj => w4 _ (by omega) (by omega)
  obtain ⟨⟨a1, a2, a3⟩, b1, ⟨b2, b3⟩, b4, b5, ⟨n1, n2, n3, n4, n5, n6⟩, ⟨x1, x2⟩, -⟩ := hV
  have h0 : w' v = w v := hd 0 (by omega)
  refine ⟨⟨⟨⟨a1, ?_, ?_⟩, fun p hp => ?_, ⟨?_, ?_⟩, fun p o hp ho hne => ?_, fun q hq => ?_, ⟨?_, ?_, ?_, ?_, ?_, ?_⟩, ⟨fun p h1 h2 => ?_, fun p o h1 h2 h3 => ?_⟩, hR⟩, ?_⟩, f.tr ⟨fun i h1 h2 h3 h4 h5 => w4 i (by omega) (by omega), fun k h1 h2 => by rw [w4 32 (by omega) (by omega)], fun i h0 h1 h6 h7 => z4 i h1, fun k hk => by rw [z4 0 (by decide)], fun k hk => z3 k (by omega) (by omega), fun q => q.eq (by rw [z4 0 (by decide)]) (by rw [z4 0 (by decide)]) (by rw [z4 0 (by decide)])⟩, h0⟩
  · show w' (v + 0) 8 = _; rw [hd 0 (by omega)]; exact a2
  · rw [hk 3 (by omega) (by omega)]; exact a3
  · show w' (v + 1) p = _ ∧ w' (v + 2) p = _ ∧ w' (v + 3) p = _ ∧ w' (v + 4) p = _ ∧ w' (v + 5) p = _
    rw [hd 1 (by omega), hd 2 (by omega), hd 3 (by omega), hd 4 (by omega), hd 5 (by omega), hk _ (by omega) (by omega), hk _ (by omega) (by omega), hk _ (by omega) (by omega), hk _ (by omega) (by omega), hk _ (by omega) (by omega)]
    exact b1 p hp
  · show w' (v + 0) 9 = _; rw [hd 0 (by omega)]; exact b2.trans (congrArg nI (bs_congr (fun p hp => by unfold fS; rw [hk _ (by omega) (by omega)])))
  · show w' (v + 0) 10 = _; rw [hd 0 (by omega)]; exact b3.trans (congrArg nI (bs_congr (fun p hp => by unfold fB; rw [hk _ (by omega) (by omega)])))
  · show w' (v + 6) _ = _; rw [hd 6 (by omega), hk _ (by omega) (by omega)]; exact b4 p o hp ho hne
  · show w' (v + 7) _ = _; rw [hd 7 (by omega), hk _ (by omega) (by omega)]; exact b5 q hq
  · show w' (v + 0) _ = _; rw [hd 0 (by omega), hk _ (by omega) (by omega)]; exact n1
  · show w' (v + 0) _ = _; rw [hd 0 (by omega), hk _ (by omega) (by omega)]; exact n2
  · show w' (v + 0) _ = _; rw [hd 0 (by omega), hk _ (by omega) (by omega)]; exact n3
  · show w' (v + 0) _ = _; rw [hd 0 (by omega), hk _ (by omega) (by omega)]; exact n4
  · show w' (v + 0) _ = _; rw [hd 0 (by omega), hk _ (by omega) (by omega)]; exact n5
  · show w' (v + 0) _ = _; rw [hd 0 (by omega), hk _ (by omega) (by omega)]; exact n6
  · show w' (v + 3) _ = _ ∧ w' (v + 4) _ = _ ∧ w' (v + 5) _ = _; rw [hd 3 (by omega), hd 4 (by omega), hd 5 (by omega)]; exact x1 p h1 h2
  · show w' (v + 6) _ = _; rw [hd 6 (by omega)]; exact x2 p o h1 h2 h3
  · obtain ⟨y1, y2, y3, y4, y5, y6, y7, y8⟩ := hW
    refine ⟨fun p hp => ?_, fun p o hp ho hne => ?_, fun q hq => ?_, ?_, ?_, ?_, ?_, ?_⟩
    · rw [hk _ (by omega) (by omega), hk _ (by omega) (by omega), hk _ (by omega) (by omega), hk _ (by omega) (by omega), hk _ (by omega) (by omega), hk _ (by omega) (by omega), hk _ (by omega) (by omega)]
      exact y1 p hp
    · rw [hk _ (by omega) (by omega)]; exact y2 p o hp ho hne
    · rw [hk _ (by omega) (by omega)]; exact y3 q hq
    · rw [hk _ (by omega) (by omega)]; exact y4
    · rw [hk _ (by omega) (by omega)]; exact y5
    · rw [hk _ (by omega) (by omega)]; exact y6
    · rw [hk _ (by omega) (by omega)]; exact y7
    · rw [hk _ (by omega) (by omega)]; exact y8

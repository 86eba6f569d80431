/-! LAYER 2: THE OTHERS ARE FED -/
theorem isIn_or (x y : Int32) {k : Nat} (hk : k < 6) : q11_isIn (x ||| y) (nI k) = (q11_isIn x (nI k) || q11_isIn y (nI k)) := by
  rw [isIn_lsb _ hk, isIn_lsb _ hk, isIn_lsb _ hk, Int32.toBitVec_or, BitVec.getLsbD_or]
theorem xor4a : ∀ a, a < 100 → ∀ b, b < 100 → ¬ (nI (100 * a + b) ^^^ 4) < 0 := by decide +kernel
theorem xor4 (w : Nat) (h : w < 10000) : ¬ (nI w ^^^ 4) < 0 := by
  have := xor4a (w / 100) (by omega) (w % 100) (by omega)
  rw [show 100 * (w / 100) + w % 100 = w from by omega] at this
  exact this
theorem fmod4 {w : Nat} (h : w ≤ 9999) : fmod (nI w) 4 = nI (w % 4) := by
  unfold fmod
  rw [if_neg (fun q => xor4 w (by omega) q.1)]
  exact irm_nI (d := 4) (by omega) (by decide) (by decide)
theorem irm4 {w : Nat} (h : w ≤ 9999) : irm (nI w) 4 = nI (w % 4) := irm_nI (d := 4) (by omega) (by decide) (by decide)
theorem more_in {x : Int32} (h : inR x 9) : inR (imin 9 (x + 1)) 9 := by
  obtain ⟨a, ha, rfl⟩ := h
  rw [warm_in ha]
  exact inR_nI (by omega)
theorem flour_in {x y : Int32} (h : inR x 9999) (h' : inR y 99) : inR (imin 9999 (x + y)) 9999 := by
  obtain ⟨a, ha, rfl⟩ := h
  obtain ⟨b, hb, rfl⟩ := h'
  rw [nI_add, show (9999 : Int32) = nI 9999 from rfl, imin_nI (by omega) (by omega)]
  exact inR_nI (by omega)
theorem inR_pos {x : Int32} {N : Nat} (hN : N < 2 ^ 31) (h : inR x N) : 0 < x ↔ ¬ x = 0 := by
  obtain ⟨a, ha, rfl⟩ := h
  rw [show (0 : Int32) = nI 0 from rfl, nI_ltI (by omega) (by omega), nI_eq (by omega) (by omega)]
  omega
theorem inR_less {x : Int32} {N : Nat} (hN : N < 2 ^ 31) (h : inR x N) (h0 : ¬ x = 0) : inR (x - 1) N := by
  obtain ⟨a, ha, rfl⟩ := h
  have : a ≠ 0 := fun q => h0 (by rw [q]; rfl)
  have e := nI_pred (a - 1)
  rw [show a - 1 + 1 = a from by omega] at e
  rw [e]
  exact inR_nI (by omega)
theorem Wk.more {v n p : Nat} {σ μ w z : St} (hv : v = 44 ∨ v = 54) (h : Wk v n w z) (f : Fw v σ μ w z) (hp : p < n) : R2 (q10_hungerMore w v (nI p)) (q12_isHungrier z (nI p)) (fun w' z' => Wk v n w' z' ∧ Fw v σ μ w' z' ∧ w' v = w v) := by
  have hn := h.1.1.1
  unfold q10_hungerMore q12_isHungrier q12_lays
  have ix : (14 + 7 * nI p) + 0 = nI (14 + 7 * p) := by
    rw [Int32.add_zero, show (7 : Int32) = nI 7 from rfl, show (14 : Int32) = nI 14 from rfl, pk_mul, nI_add]
  rw [h.1.h1 hp, of0 (by omega)]
  simp only [Option.bind_some]
  rw [sa_nI (k := p) rfl (by omega) (by decide), sa_nI (k := 14 + 7 * p) ix (by omega) (by decide), ← imin_le]
  have p1 := Wk.put (j := 1) (k := p) (l := 14 + 7 * p) (x := imin 9 (z 1 (14 + 7 * p) + 1)) (y := imin 9 (z 1 (14 + 7 * p) + 1)) f hv (by omega) (by omega) (by omega) (by omega) (h.1.uH hp) (h.2.uH hn hp (more_in (h.2.1 p hp).1))
  exact r2_some ⟨p1.1, p1.2, up_pl (by omega)⟩
theorem lays0 {z : St} {p : Nat} {x : Int32} (hp : p < 50) : q12_lays z (nI p) 0 x = some (up z 1 (14 + 7 * p) x) := by
  unfold q12_lays
  have ix : (14 + 7 * nI p) + 0 = nI (14 + 7 * p) := by
    rw [Int32.add_zero, show (7 : Int32) = nI 7 from rfl, show (14 : Int32) = nI 14 from rfl, pk_mul, nI_add]
  rw [sa_nI (k := 14 + 7 * p) ix (by omega) (by decide)]
  rfl
theorem laysk {z : St} {p k : Nat} {x : Int32} (hp : p < 50) (hk : k < 7) : q12_lays z (nI p) (nI k) x = some (up z 1 (14 + 7 * p + k) x) := by
  unfold q12_lays
  have ix : (14 + 7 * nI p) + nI k = nI (14 + 7 * p + k) := by
    rw [show (7 : Int32) = nI 7 from rfl, show (14 : Int32) = nI 14 from rfl, pk_mul, nI_add, nI_add]
  rw [sa_nI (k := 14 + 7 * p + k) ix (by omega) (by decide)]
  rfl
theorem feeds_ok {v n : Nat} {σ μ : St} (hv : v = 44 ∨ v = 54) (h : Wk v n σ μ) : ∃ g, ag σ (v + 7) 4 (fmod (σ v 12) 4) = some g ∧ R2 (q0_feedOthers (up σ v 11 (imin 9999 (σ v 11 + g))) v) (q12_feeds μ) (fun a b => Wk v n a b ∧ Fw v σ μ a b ∧ a v 10 = σ v 10) := by
  have hn := h.1.1.1
  have e11 : σ v 11 = μ 1 5 := h.1.2.2.2.2.2.1.1
  have e12 : σ v 12 = μ 1 4 := h.1.2.2.2.2.2.1.2.1
  obtain ⟨W, hWk, eW⟩ := h.2.2.2.2.2.1
  have hq : W % 4 < 4 := Nat.mod_lt _ (by omega)
  have eg : σ (v + 7) (W % 4) = μ 1 (10 + W % 4) := h.1.2.2.2.2.1 _ hq
  refine ⟨μ 1 (10 + W % 4), ?_, ?_⟩
  · rw [e12, eW, fmod4 hWk, ag_nI (k := W % 4) rfl hq (by decide), eg]
  unfold q0_feedOthers q12_feeds
  dsimp only [lt]
  rw [e11]
  refine r2_R (ag_m (j := 5) (k := 5) rfl (by decide)) ?_
  refine r2_R (ag_m (j := 4) (k := 4) rfl (by decide)) ?_
  rw [eW, irm4 hWk]
  refine r2_R (ag_m (k := 10 + W % 4) (by rw [show (10 : Int32) = nI 10 from rfl, nI_add]) (by omega)) ?_
  refine r2_R (sa_nI (k := 5) rfl (by decide) (by decide)) ?_
  rw [← imin_le]
  have hput := Wk.put0 (k := 11) (l := 5) (x := imin 9999 (μ 1 5 + μ 1 (10 + W % 4))) (y := imin 9999 (μ 1 5 + μ 1 (10 + W % 4))) (n := n) (Fw.rfl' (v := v) (σ := σ) (μ := μ)) hv (by decide) (by decide) (by decide) h.1.uFl (h.2.uFl hn (flour_in h.2.2.2.2.1 (h.2.2.2.1 _ hq)))
  refine r2_bind ?_
  refine lpR22 n (fun k p w q z => p = nI k ∧ q = nI k ∧ Wk v n w z ∧ Fw v σ μ w z ∧ w v 10 = σ v 10) ?_ fuelN fuelN 0 _ _ _ _ (Nat.zero_le _) (fuel_ok (by omega)) (fuel_ok (by omega)) ⟨rfl, rfl, hput.1, hput.2, up_off (by decide)⟩
  rintro F G k p w q z hk ⟨rfl, rfl, hw, hf, h10⟩ IH
  refine r2_R ag3 ?_
  have w8 : w v 8 = nI n := hw.1.1.2.1
  rw [w8, hw.1.1.2.2]
  refine r2_ite Iff.rfl (fun hlt => ?_) (fun _ => r2_some (r2_some ⟨hw, hf, h10⟩))
  have hkn : k < n := (nI_ltI (by omega) (by omega)).mp hlt
  rw [isIn_or _ _ (by omega), hw.1.hs hkn, hw.1.hb hkn, of3 (by omega), of4 (by omega), nI_1]
  simp only [Option.bind_some]
  rcases wS hw.2 hkn with ⟨a1, a2⟩ | ⟨a1, a2⟩
  · rcases wB hw.2 hkn with ⟨b1, b2⟩ | ⟨b1, b2⟩
    · rw [a1, a2, b1, b2, if_neg (show ¬ (false || false) = true by decide), if_neg (show ¬ (0 : Int32) = 1 by decide), if_neg (show ¬ (0 : Int32) = 1 by decide)]
      simp only [Option.bind_some, Bool.false_eq_true, if_false]
      rw [ag_m (μ := z) (j := 5) (k := 5) rfl (by decide)]
      simp only [Option.bind_some]
      have f11 : w v 11 = z 1 5 := hw.1.2.2.2.2.2.1.1
      have hfl := hw.2.2.2.2.1
      rw [f11]
      by_cases h0 : z 1 5 = 0
      · rw [if_neg (fun q => (inR_pos (by decide) hfl).mp q h0), if_pos h0]
        obtain ⟨w', z', e1, e2, h1, h2, h4⟩ := Wk.more hv hw hf hkn
        rw [e1, e2]
        simp only [Option.bind_some]
        exact IH _ _ _ _ hkn ⟨rfl, rfl, h1, h2, by rw [h4]; exact h10⟩
      · rw [if_pos ((inR_pos (by decide) hfl).mpr h0), if_neg h0, sa_nI (k := k) rfl (by omega) (by decide), sa_nI (j := 5) (k := 5) rfl (by decide) (by decide)]
        simp only [Option.bind_some]
        rw [lays0 (by omega)]
        simp only [Option.bind_some]
        have p1 := Wk.put0 (k := 11) (l := 5) (x := z 1 5 - 1) (y := z 1 5 - 1) (n := n) hf hv (by decide) (by decide) (by decide) hw.1.uFl (hw.2.uFl hn (inR_less (by decide) hfl h0))
        have p2 := Wk.put (j := 1) (k := k) (l := 14 + 7 * k) (x := 0) (y := 0) (n := n) p1.2 hv (by omega) (by omega) (by omega) (by omega) (p1.1.1.uH hkn) (p1.1.2.uH hn hkn (inR_nI (a := 0) (by omega)))
        exact IH _ _ _ _ hkn ⟨rfl, rfl, p2.1, p2.2, by rw [up_pl (by omega), up_off (by decide)]; exact h10⟩
    · rw [a1, a2, b1, b2, if_pos (show (false || true) = true by decide), if_neg (show ¬ (0 : Int32) = 1 by decide), if_pos rfl]
      simp only [Option.bind_some, if_true]
      exact IH _ _ _ _ hkn ⟨rfl, rfl, hw, hf, h10⟩
  · rw [a1, a2, if_pos (show (true || fB (z 1) k) = true from rfl), if_pos rfl]
    simp only [Option.bind_some, if_true]
    exact IH _ _ _ _ hkn ⟨rfl, rfl, hw, hf, h10⟩

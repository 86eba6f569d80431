/-! LAYER 2: THE TEXT, READ BY THE REFERENCE -/
theorem up_up {σ : St} {i k : Nat} {x y : Int32} : up (up σ i k x) i k y = up σ i k y := by
  funext a b
  rw [up_eq2, up_eq2, up_eq2]
  split
  · rfl
  · rfl
theorem up_same {σ : St} {i k : Nat} : up σ i k (σ i k) = σ := by
  funext a b
  rw [up_eq2]
  split
  · next h => rw [h.1, h.2]
  · rfl
theorem up_cm {σ : St} {i k l : Nat} {x y : Int32} (h : k ≠ l) : up (up σ i k x) i l y = up (up σ i l y) i k x := by
  funext a b
  rw [up_eq2, up_eq2, up_eq2, up_eq2]
  by_cases h1 : a = i ∧ b = l
  · rw [if_pos h1, if_neg (fun q => h (q.2.symm.trans h1.2)), if_pos h1]
  · rw [if_neg h1]
    by_cases h2 : a = i ∧ b = k
    · rw [if_pos h2, if_pos h2]
    · rw [if_neg h2, if_neg h2, if_neg h1]
def LT (T : TxT) (N : Nat) (μ : St) : Prop := N ≤ 400 ∧ ((μ 0 9 = -1 ∧ ∀ k, k < N → μ 5 k = T k) ∨ (μ 0 9 = 352 ∧ ∀ k, k < N → μ 1 (352 + k) = T k)) ∧ μ 0 10 = nI N
theorem letter_ok {T : TxT} {N k : Nat} {μ : St} (h : LT T N μ) (hk : k < N) : q12_letter μ (nI k) = some (T k) := by
  obtain ⟨hN, h1, h2⟩ := h
  unfold q12_letter
  rcases h1 with ⟨h1, h3⟩ | ⟨h1, h3⟩
  · rw [if_pos h1, ag_nI (k := k) rfl (by omega) (by decide), h3 k hk]
    rfl
  · rw [h1, if_neg (show ¬ (352 : Int32) = -1 by decide), ag_m (k := 352 + k) (by rw [show (352 : Int32) = nI 352 from rfl, nI_add]) (by omega), h3 k hk]
    rfl
theorem LT.u0 {T : TxT} {N j : Nat} {μ : St} {x : Int32} (h : LT T N μ) (h9 : j ≠ 9) (h10 : j ≠ 10) : LT T N (up μ 0 j x) := by
  obtain ⟨hN, h1, h2⟩ := h
  refine ⟨hN, ?_, by rw [up_off (Ne.symm h10)]; exact h2⟩
  rcases h1 with ⟨h1, h3⟩ | ⟨h1, h3⟩
  · exact Or.inl ⟨by rw [up_off (Ne.symm h9)]; exact h1, fun k hk => by rw [up_pl (by decide)]; exact h3 k hk⟩
  · exact Or.inr ⟨by rw [up_off (Ne.symm h9)]; exact h1, fun k hk => by rw [up_pl (by decide)]; exact h3 k hk⟩
def PM (T : TxT) (N : Nat) (μ : St) (p : Nat) : Prop := LT T N μ ∧ p ≤ N ∧ μ 0 11 = nI p
theorem PM.to {T : TxT} {N p q : Nat} {μ : St} (h : PM T N μ p) (hq : q ≤ N) : PM T N (up μ 0 11 (nI q)) q := ⟨h.1.u0 (by decide) (by decide), hq, up_at⟩
theorem PM.u0 {T : TxT} {N p j : Nat} {μ : St} {x : Int32} (h : PM T N μ p) (h9 : j ≠ 9) (h10 : j ≠ 10) (h11 : j ≠ 11) : PM T N (up μ 0 j x) p := ⟨h.1.u0 h9 h10, h.2.1, by rw [up_off (Ne.symm h11)]; exact h.2.2⟩
theorem skip_ok {T : TxT} {N p : Nat} {μ : St} (h : PM T N μ p) : q12_skip μ = some (up μ 0 11 (nI (sk T N p))) := by
  obtain ⟨hL, hp, h11⟩ := h
  have hN := hL.1
  have key : Wo (q12_skip μ) (fun r => r = up μ 0 11 (nI (sk T N p))) := by
    unfold q12_skip
    dsimp only [lt]
    refine wo_bind ?_
    refine lpW1 (N - p) (fun t w => w = up μ 0 11 (nI (p + t)) ∧ sk T N p = sk T N (p + t)) ?_ fuelN 0 _ (Nat.zero_le _) (fuel_ok (by omega)) ⟨by rw [Nat.add_zero, ← h11, up_same], rfl⟩
    rintro rec t w ht ⟨rfl, hs⟩ IH
    have hL' := hL.u0 (j := 11) (x := nI (p + t)) (by decide) (by decide)
    rw [hL'.2.2, up_at]
    by_cases hl : p + t < N
    · rw [if_pos (nI_lt hl (by omega)), letter_ok hL' hl]
      simp only [Option.bind_some]
      by_cases hsp : T (p + t) = 32
      · rw [if_pos hsp]
        simp only [Option.bind_some, if_true]
        refine IH _ (by omega) ⟨by rw [up_up, nI_1]; rfl, ?_⟩
        rw [hs]
        exact go_s hl (decide_eq_true hsp)
      · rw [if_neg hsp]
        simp only [Option.bind_some, Bool.false_eq_true, if_false]
        exact wo_some (wo_some (by rw [hs, sk_id (fun _ => hsp)]))
    · rw [if_neg (fun q => hl ((nI_ltI (by omega) (by omega)).mp q))]
      simp only [Option.bind_some, Bool.false_eq_true, if_false]
      exact wo_some (wo_some (by rw [hs, sk_id (fun q => absurd q hl)]))
  obtain ⟨r, e, rfl⟩ := key
  exact e
theorem here_ok {T : TxT} {N p : Nat} {μ : St} (h : PM T N μ p) : q12_here μ = some (nI (sk T N p), up μ 0 11 (nI (sk T N p))) := by
  unfold q12_here
  rw [skip_ok h]
  simp only [Option.bind_some]
  rw [up_at]
theorem sign12 {T : TxT} {N p : Nat} {μ : St} {c : Int32} (h : PM T N μ p) : q12_isSign μ c = some (sg T N (sk T N p) c, up μ 0 11 (nI (sk T N p))) := by
  have hb := sk_b (T := T) h.2.1
  have hP := h.to hb.2
  have hN := h.1.1
  unfold q12_isSign
  rw [skip_ok h]
  simp only [Option.bind_some]
  rw [up_at, hP.1.2.2]
  unfold sg
  by_cases hl : sk T N p < N
  · rw [if_pos (nI_lt hl (by omega)), letter_ok hP.1 hl, decide_eq_true hl]
    simp only [Option.bind_some]
    by_cases hc : T (sk T N p) = c
    · rw [if_pos hc, decide_eq_true hc]; rfl
    · rw [if_neg hc, decide_eq_false hc]; rfl
  · rw [if_neg (fun q => hl ((nI_ltI (by omega) (by omega)).mp q)), decide_eq_false hl]
    rfl
theorem wrong_ok {μ : St} {x : Int32} (h : μ 0 12 = -1) : q12_wrong μ x = some (up μ 0 12 x) := by
  unfold q12_wrong
  dsimp only [lt]
  rw [if_pos h]
theorem wrong_no {μ : St} {x : Int32} (h : ¬ μ 0 12 = -1) : q12_wrong μ x = some μ := by
  unfold q12_wrong
  dsimp only [lt]
  rw [if_neg h]
theorem te_go {T : TxT} {N b k : Nat} (hk : kd T N b = k) (h1 : 1 ≤ k) (h2 : k ≤ 2) : te T N b = go (fun j => decide (kdI (T j) = k)) N b := by
  have hb : b < N := by
    unfold kd at hk
    split at hk
    · assumption
    · omega
  have hkd : kdI (T b) = k := by unfold kd at hk; rw [if_pos hb] at hk; exact hk
  unfold te
  rw [if_pos hb, if_neg (by omega), hkd, go_s (P := fun j => decide (kdI (T j) = k)) hb (decide_eq_true hkd)]
theorem go_no {T : TxT} {N b k : Nat} (hk : ¬ kd T N b = k) (hb : b ≤ N) (h1 : 1 ≤ k) : go (fun j => decide (kdI (T j) = k)) N b = b := by
  unfold kd at hk
  by_cases hl : b < N
  · rw [if_pos hl] at hk
    exact go_n (fun q => hk (of_decide_eq_true q))
  · exact go_end (by omega)
theorem has12 {T : TxT} {N p w : Nat} {μ : St} (h : PM T N μ p) (hw : w < 46) : q12_has μ w = some (wd T N (sk T N p) w, up μ 0 11 (nI (if wd T N (sk T N p) w = true then te T N (sk T N p) else sk T N p))) := by
  have hb := sk_b (T := T) h.2.1
  have hP := h.to hb.2
  have hN := h.1.1
  have hwl := wl_b w hw
  have key : Wo (q12_has μ w) (fun r => r = (wd T N (sk T N p) w, up μ 0 11 (nI (if wd T N (sk T N p) w = true then te T N (sk T N p) else sk T N p)))) := by
    unfold q12_has
    dsimp only [lt]
    rw [skip_ok h]
    simp only [Option.bind_some]
    rw [up_at, hP.1.2.2]
    generalize sk T N p = b at hb hP
    have hg := go_b (P := fun j => decide (kdI (T j) = 1)) (N := N) _ b rfl hb.2
    refine wo_bind (wo_mono (Q := fun y => y = nI (go (fun j => decide (kdI (T j) = 1)) N b)) ?_ ?_)
    · refine lpW1 (N - b) (fun t q => q = nI (b + t) ∧ go (fun j => decide (kdI (T j) = 1)) N b = go (fun j => decide (kdI (T j) = 1)) N (b + t)) ?_ fuelN 0 _ (Nat.zero_le _) (fuel_ok (by omega)) ⟨rfl, rfl⟩
      rintro rec t q ht ⟨rfl, hq⟩ IH
      by_cases hl : b + t < N
      · rw [if_pos (nI_lt hl (by omega)), letter_ok hP.1 hl]
        simp only [Option.bind_some]
        have e1 : q12_isIn (T (b + t)) 97 122 = true ↔ kdI (T (b + t)) = 1 := by
          unfold q12_isIn
          rw [decide_eq_true_eq, kdI_1]
        by_cases hc : kdI (T (b + t)) = 1
        · rw [if_pos (e1.mpr hc)]
          simp only [Option.bind_some, if_true]
          refine IH _ (by omega) ⟨by rw [nI_1]; rfl, ?_⟩
          rw [hq]
          exact go_s hl (decide_eq_true hc)
        · rw [if_neg (fun q => hc (e1.mp q))]
          simp only [Option.bind_some, Bool.false_eq_true, if_false]
          exact wo_some (by rw [hq, go_n (fun q => hc (of_decide_eq_true q))])
      · rw [if_neg (fun q => hl ((nI_ltI (by omega) (by omega)).mp q))]
        simp only [Option.bind_some, Bool.false_eq_true, if_false]
        exact wo_some (by rw [hq, go_end (by omega)])
    · rintro y rfl
      rw [pk_sub hg.1]
      have e2 : nI (go (fun j => decide (kdI (T j) = 1)) N b - b) = slen w ↔ go (fun j => decide (kdI (T j) = 1)) N b - b = wl w := nI_eq (b := wl w) (by omega) (by omega)
      by_cases c1 : kd T N b = 1
      · have ht := te_go c1 (by omega) (by omega)
        rw [← ht] at e2 ⊢
        by_cases c2 : te T N b - b = wl w
        · rw [if_neg (not_not_intro (e2.mpr c2))]
          have hwd : wd T N b w = wdF T w b (wl w) := by
            unfold wd
            rw [decide_eq_true c1, decide_eq_true c2, Bool.true_and, Bool.true_and]
          rw [hwd]
          refine wo_bind ?_
          refine lpW1 (wl w) (fun t q => q = nI t ∧ wdF T w b t = true) ?_ fuelN 0 _ (Nat.zero_le _) (fuel_ok (by omega)) ⟨rfl, rfl⟩
          rintro rec t q ht2 ⟨rfl, hq⟩ IH
          have e3 : nI t < slen w ↔ t < wl w := nI_ltI (b := wl w) (by omega) (by omega)
          by_cases hl : t < wl w
          · rw [if_pos (e3.mpr hl), nI_add, letter_ok hP.1 (by omega), schr_ok hl hw]
            simp only [Option.bind_some]
            by_cases hc : T (b + t) = wc w t
            · rw [if_neg (not_not_intro hc), nI_1]
              refine IH _ hl ⟨rfl, ?_⟩
              show (wdF T w b t && decide (T (b + t) = wc w t)) = true
              rw [hq, decide_eq_true hc]
              rfl
            · rw [if_pos hc]
              refine wo_some (wo_some ?_)
              rw [wdF_f hl hc]
              rfl
          · have : t = wl w := by omega
            subst this
            rw [if_neg (fun q => hl (e3.mp q))]
            refine wo_some (wo_some ?_)
            rw [hq, if_pos rfl, up_up]
        · rw [if_pos (fun q => c2 (e2.mp q))]
          have hwd : wd T N b w = false := by
            unfold wd
            rw [decide_eq_false c2, Bool.false_and, Bool.and_false]
          rw [hwd]
          exact wo_some rfl
      · rw [go_no c1 hb.2 (by omega)] at e2 ⊢
        rw [if_pos (fun q => by have := e2.mp q; omega)]
        have hwd : wd T N b w = false := by
          unfold wd
          rw [decide_eq_false c1, Bool.false_and]
        rw [hwd]
        exact wo_some rfl
  obtain ⟨r, e, rfl⟩ := key
  exact e
theorem fig_no {μ : St} {x y : Int32} (h : ¬ μ 0 12 = -1) : q12_figures μ x y = some (0, μ) := by
  unfold q12_figures
  rw [if_pos h]
theorem fig12 {T : TxT} {N p : Nat} {μ : St} {H : Int32} (h : PM T N μ p) (h12 : μ 0 12 = -1) : (∃ v, nm T N (sk T N p) H = some v ∧ q12_figures μ 0 H = some (nI v, up μ 0 11 (nI (te T N (sk T N p))))) ∨ (nm T N (sk T N p) H = none ∧ ∃ x e, e ≤ N ∧ q12_figures μ 0 H = some (x, up (up μ 0 11 (nI e)) 0 12 (nI (sk T N p)))) := by
  have hb := sk_b (T := T) h.2.1
  have hP := h.to hb.2
  have hN := h.1.1
  unfold q12_figures
  dsimp only [lt]
  rw [if_neg (not_not_intro h12), here_ok h]
  simp only [Option.bind_some]
  generalize sk T N p = b at hb hP
  have key : Wo (loop2 (fun rec10_ (v13_ : Int32) (σ14_ : St) =>
  Option.bind (if (σ14_ 0 11) < (σ14_ 0 10) then (Option.bind (q12_letter σ14_ (σ14_ 0 11)) fun x22_ =>
  if q12_isIn x22_ 48 57 = true then (if ((σ14_ 0 11) - nI b) ≤ 3 then (some true) else (some false)) else (some false)) else (some false)) fun t19_ =>
  if t19_ = true then
  Option.bind (q12_letter σ14_ (σ14_ 0 11)) fun x27_ =>
  rec10_ (((10 * v13_) + x27_) - 48) (up σ14_ 0 11 ((σ14_ 0 11) + 1))
  else (some (v13_, σ14_))) fuelN (0 : Int32) (up μ 0 11 (nI b))) (fun y => ∃ t, t ≤ 4 ∧ b + t ≤ N ∧ y = (nI (nvI T b t), up μ 0 11 (nI (b + t))) ∧ (∀ j, j < t → kdI (T (b + j)) = 2) ∧ go (fun j => decide (kdI (T j) = 2)) N b = go (fun j => decide (kdI (T j) = 2)) N (b + t) ∧ (t = 4 ∨ go (fun j => decide (kdI (T j) = 2)) N (b + t) = b + t)) := by
    refine lpW2 4 (fun t v w => v = nI (nvI T b t) ∧ w = up μ 0 11 (nI (b + t)) ∧ b + t ≤ N ∧ (∀ j, j < t → kdI (T (b + j)) = 2) ∧ go (fun j => decide (kdI (T j) = 2)) N b = go (fun j => decide (kdI (T j) = 2)) N (b + t)) ?_ fuelN 0 _ _ (Nat.zero_le _) (fuel_ok (by omega)) ⟨rfl, rfl, hb.2, fun j hj => absurd hj (Nat.not_lt_zero _), rfl⟩
    rintro rec t v w ht ⟨rfl, rfl, hbt, hd, hq⟩ IH
    have hL' := h.1.u0 (j := 11) (x := nI (b + t)) (by decide) (by decide)
    rw [hL'.2.2, up_at]
    by_cases hl : b + t < N
    · rw [if_pos (nI_lt hl (by omega)), letter_ok hL' hl]
      simp only [Option.bind_some]
      have e1 : q12_isIn (T (b + t)) 48 57 = true ↔ kdI (T (b + t)) = 2 := by
        unfold q12_isIn
        rw [decide_eq_true_eq, kdI_2]
      by_cases hc : kdI (T (b + t)) = 2
      · rw [if_pos (e1.mpr hc), pk_sub (by omega), show b + t - b = t from by omega]
        have e3 : nI t ≤ 3 ↔ t ≤ 3 := by
          rw [← Int32.not_lt, show (3 : Int32) = nI 3 from rfl, nI_ltI (by omega) (by omega)]
          omega
        by_cases h3 : t ≤ 3
        · rw [if_pos (e3.mpr h3)]
          simp only [Option.bind_some, if_true]
          obtain ⟨d, d1, d2, d3⟩ := dg_ok hc
          refine IH _ _ (by omega) ⟨?_, by rw [up_up, nI_1]; rfl, by omega, fun j hj => ?_, ?_⟩
          · show _ = nI (nvI T b t * 10 + ((T (b + t)).toNatClampNeg - 48))
            rw [d3, d2, show (10 : Int32) = nI 10 from rfl, pk_mul, nI_add, show (48 : Int32) = nI 48 from rfl, pk_sub (by omega), Nat.mul_comm]
            congr 1
          · by_cases hjt : j = t
            · subst hjt; exact hc
            · exact hd j (by omega)
          · rw [hq]
            exact go_s hl (decide_eq_true hc)
        · rw [if_neg (fun q => h3 (e3.mp q))]
          simp only [Option.bind_some, Bool.false_eq_true, if_false]
          exact wo_some ⟨t, ht, hbt, rfl, hd, hq, Or.inl (by omega)⟩
      · rw [if_neg (fun q => hc (e1.mp q))]
        simp only [Option.bind_some, Bool.false_eq_true, if_false]
        exact wo_some ⟨t, ht, hbt, rfl, hd, hq, Or.inr (go_n (fun q => hc (of_decide_eq_true q)))⟩
    · rw [if_neg (fun q => hl ((nI_ltI (by omega) (by omega)).mp q))]
      simp only [Option.bind_some, Bool.false_eq_true, if_false]
      exact wo_some ⟨t, ht, hbt, rfl, hd, hq, Or.inr (go_end (by omega))⟩
  obtain ⟨y, ey, t, t1, t2, rfl, t3, t4, t5⟩ := key
  rw [ey]
  simp only [Option.bind_some]
  rw [up_at, pk_sub (by omega), show b + t - b = t from by omega]
  have hg := go_b (P := fun j => decide (kdI (T j) = 2)) (N := N) _ (b + t) rfl t2
  have e1 : nI (b + t) = nI b ↔ t = 0 := by
    rw [nI_eq (by omega) (by omega)]
    omega
  have e2 : (3 : Int32) < nI t ↔ 3 < t := nI_ltI (a := 3) (by omega) (by omega)
  have h12' : up μ 0 11 (nI (b + t)) 0 12 = -1 := by rw [up_off (by decide)]; exact h12
  have hbad : (nm T N b H = none) → ((((nI (b + t) = nI b) ∨ (3 < nI t)) ∨ (nI (nvI T b t) < 0)) ∨ (H < nI (nvI T b t))) → (∃ v, nm T N b H = some v ∧ (Option.bind (if (((nI (b + t) = nI b) ∨ (3 < nI t)) ∨ (nI (nvI T b t) < 0)) ∨ (H < nI (nvI T b t)) then (Option.bind (q12_wrong (up μ 0 11 (nI (b + t))) (nI b)) fun x43_ => some (x43_)) else (some (up μ 0 11 (nI (b + t))))) fun y33_ => some (nI (nvI T b t), y33_)) = some (nI v, up μ 0 11 (nI (te T N b)))) ∨ (nm T N b H = none ∧ ∃ x e, e ≤ N ∧ (Option.bind (if (((nI (b + t) = nI b) ∨ (3 < nI t)) ∨ (nI (nvI T b t) < 0)) ∨ (H < nI (nvI T b t)) then (Option.bind (q12_wrong (up μ 0 11 (nI (b + t))) (nI b)) fun x43_ => some (x43_)) else (some (up μ 0 11 (nI (b + t))))) fun y33_ => some (nI (nvI T b t), y33_)) = some (x, up (up μ 0 11 (nI e)) 0 12 (nI b))) := fun hn hc => by
    refine Or.inr ⟨hn, nI (nvI T b t), b + t, t2, ?_⟩
    rw [if_pos hc, wrong_ok h12']
    rfl
  by_cases c0 : t = 0
  · subst c0
    refine hbad ?_ (Or.inl (Or.inl (Or.inl (e1.mpr rfl))))
    unfold nm
    rw [if_neg]
    rintro ⟨q1, -, -⟩
    have hbN : b < N := by
      unfold kd at q1
      split at q1
      · assumption
      · omega
    have hk : kdI (T b) = 2 := by unfold kd at q1; rw [if_pos hbN] at q1; exact q1
    rcases t5 with q | q
    · omega
    · rw [Nat.add_zero, go_s hbN (decide_eq_true hk)] at q
      have := (go_b (P := fun j => decide (kdI (T j) = 2)) (N := N) _ (b + 1) rfl (by omega)).1
      omega
  · have hk : kd T N b = 2 := by
      have := t3 0 (by omega)
      unfold kd
      rw [if_pos (by omega)]
      exact this
    have hte : te T N b = go (fun j => decide (kdI (T j) = 2)) N (b + t) := (te_go hk (by omega) (by omega)).trans t4
    by_cases c4 : t = 4
    · refine hbad ?_ (Or.inl (Or.inl (Or.inr (e2.mpr (by omega)))))
      unfold nm
      rw [if_neg]
      rintro ⟨-, q2, -⟩
      omega
    · have htb : te T N b = b + t := by
        rcases t5 with q | q
        · omega
        · rw [hte, q]
      have hlen : te T N b - b = t := by omega
      have hnv := nv_b (T := T) (b := b) t t3
      have hnv2 : nvI T b t < 1000 := Nat.lt_of_lt_of_le hnv (Nat.le_trans (Nat.pow_le_pow_right (by omega) (show t ≤ 3 by omega)) (by decide))
      by_cases cH : nI (nvI T b t) ≤ H
      · refine Or.inl ⟨nvI T b t, ?_, ?_⟩
        · unfold nm
          rw [hlen, if_pos ⟨hk, by omega, cH⟩]
        · rw [if_neg, htb]
          · rfl
          · rintro (((q | q) | q) | q)
            · exact c0 (e1.mp q)
            · have := e2.mp q; omega
            · exact nI_pos (by omega) q
            · exact Int32.lt_irrefl (Int32.lt_of_lt_of_le q cH)
      · refine hbad ?_ (Or.inr (Int32.not_le.mp cH))
        unfold nm
        rw [hlen, if_neg (fun q => cH q.2.2)]

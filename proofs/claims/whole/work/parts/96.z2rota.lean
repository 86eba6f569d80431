/-! LAYER 2: ROTA BY THE CLASS -/
theorem bake9 {S : Nat → Bool} {g : Nat → Nat} {n k e : Nat} {N : ND} {σ : St} (hn : n ≤ 6) (hk : k < 5) (he : e ≤ n) (hN : okN n N) (hg : g k ≤ 99) (c6 : σ 14 6 = nI n) (c7 : σ 14 7 = nI (bs S n)) (c15 : ∀ p, p < n → σ 15 (k * 6 + p) = nI (N.1 p)) (c16 : σ 16 k = nI N.2.2) (c17 : σ 17 k = nI (bs N.2.1 n)) (c18 : σ 18 k = nI (g k)) : Wo (q9_bake σ (nI k) (eI e)) (fun r => r.1 = decide (e = 0 ∨ 0 < rFl S N.2.1 (rF g k N) n) ∧ (r.1 = true → (∀ p, p < n → r.2 15 ((k + 1) * 6 + p) = nI ((rSt S g n k N e).1 p)) ∧ r.2 16 (k + 1) = nI (rSt S g n k N e).2.2 ∧ r.2 17 (k + 1) = nI (bs (rSt S g n k N e).2.1 n)) ∧ (∀ i, i ≠ 15 → i ≠ 16 → i ≠ 17 → r.2 i = σ i) ∧ (∀ j, j < (k + 1) * 6 → r.2 15 j = σ 15 j) ∧ ∀ j, j ≤ k → r.2 16 j = σ 16 j ∧ r.2 17 j = σ 17 j) := by
  obtain ⟨hh, hf⟩ := hN
  unfold q9_bake
  dsimp only [lt]
  rw [ag_nI (σ := σ) (i := 16) (n := 6) (j := nI k) (k := k) rfl (by omega) (by decide), ag_nI (σ := σ) (i := 18) (n := 5) (j := nI k) (k := k) rfl (by omega) (by decide)]
  simp only [Option.bind_some]
  rw [c16, c18, flr9 hf hg]
  have eF : nI (min 9999 (N.2.2 + g k)) = nI (rF g k N) := rfl
  rw [eF]
  have hF : rF g k N ≤ 9999 := Nat.min_le_left _ _
  refine wo_bind (wo_mono (Q := fun y => y.1 = nI (rFl S N.2.1 (rF g k N) n) ∧ (∀ q, q < n → y.2.2 15 ((k + 1) * 6 + q) = nI (rH S N.2.1 N.1 (rF g k N) e q)) ∧ (∀ j, j < (k + 1) * 6 → y.2.2 15 j = σ 15 j) ∧ ∀ i, i ≠ 15 → y.2.2 i = σ i) ?_ ?_)
  · refine lpW3 n (fun t fl p w => fl = nI (rFl S N.2.1 (rF g k N) t) ∧ p = nI t ∧ (∀ q, q < t → w 15 ((k + 1) * 6 + q) = nI (rH S N.2.1 N.1 (rF g k N) e q)) ∧ (∀ j, j < (k + 1) * 6 → w 15 j = σ 15 j) ∧ ∀ i, i ≠ 15 → w i = σ i) ?_ fuelN 0 _ _ _ (Nat.zero_le _) (fuel_ok (by omega)) ⟨rfl, rfl, fun q hq => absurd hq (Nat.not_lt_zero _), fun _ _ => rfl, fun _ _ => rfl⟩
    rintro rec t fl p w ht ⟨rfl, rfl, w15, wl, wf⟩ IH
    rw [wf 14 (by decide), c6]
    refine wo_ite (fun hlt => ?_) (fun hge => ?_)
    · have htn : t < n := (nI_ltI (by omega) (by omega)).mp hlt
      have e2 : nI k * 6 + 6 + nI t = nI ((k + 1) * 6 + t) := by
        show nI k * nI 6 + nI 6 + nI t = _
        rw [pk_mul, nI_add, nI_add]
        congr 1
        omega
      have hlf := rFl_le (S := S) (b := N.2.1) (f := rF g k N) t
      have a1 : ag w 15 36 (nI k * 6 + nI t) = some (nI (N.1 t)) := by rw [ag_nI (ix_6 k t) (by omega) (by decide), wl _ (by omega), c15 t htn]
      have a2 : ag w 17 6 (nI k) = some (nI (bs N.2.1 n)) := by rw [ag_nI (k := k) rfl (by omega) (by decide), wf 17 (by decide), c17]
      rw [a1, a2]
      simp only [Option.bind_some]
      rw [isIn_bs hn htn, c7, isIn_bs hn htn, more9 (hh t htn)]
      have close : ∀ (X fl' : Nat), X = rH S N.2.1 N.1 (rF g k N) e t → fl' = rFl S N.2.1 (rF g k N) (t + 1) → Wo (rec (nI fl') (nI t + 1) (up w 15 ((k + 1) * 6 + t) (nI X))) (fun y => y.1 = nI (rFl S N.2.1 (rF g k N) n) ∧ (∀ q, q < n → y.2.2 15 ((k + 1) * 6 + q) = nI (rH S N.2.1 N.1 (rF g k N) e q)) ∧ (∀ j, j < (k + 1) * 6 → y.2.2 15 j = σ 15 j) ∧ ∀ i, i ≠ 15 → y.2.2 i = σ i) := fun X fl' hX hfl => by
        rw [nI_1]
        refine IH _ _ _ htn ⟨by rw [hfl], rfl, fun q hq => ?_, fun j hj => by rw [up_off (by omega)]; exact wl j hj, fun i hi => by rw [up_pl hi]; exact wf i hi⟩
        by_cases hqt : q = t
        · subst hqt; rw [up_at, hX]
        · rw [up_off (by omega)]; exact w15 q (by omega)
      cases hb : N.2.1 t with
      | true =>
        simp only [if_true]
        rw [sa_nI e2 (by omega) (by decide)]
        simp only [Option.bind_some]
        exact close _ _ (rH_b hb).symm (by rw [rFl_s, hb]; rfl)
      | false =>
        simp only [Bool.false_eq_true, if_false]
        cases hS : S t with
        | true =>
          simp only [if_true]
          rw [sa_nI e2 (by omega) (by decide)]
          simp only [Option.bind_some]
          have ev : (if nI t = eI e then 0 else nI (min 9 (N.1 t + 1))) = nI (if t + 1 = e then 0 else min 9 (N.1 t + 1)) := by
            have := eI_nI e (by omega) t (by omega)
            by_cases hq : t + 1 = e
            · rw [if_pos (this.mpr hq), if_pos hq]; rfl
            · rw [if_neg (fun q => hq (this.mp q)), if_neg hq]
          rw [ev]
          exact close _ _ (rH_S hb hS).symm (by rw [rFl_s, hb, hS]; rfl)
        | false =>
          simp only [Bool.false_eq_true, if_false]
          rw [sa_nI e2 (by omega) (by decide)]
          simp only [Option.bind_some]
          have ev : (if 0 < nI (rFl S N.2.1 (rF g k N) t) then 0 else nI (min 9 (N.1 t + 1))) = nI (if 0 < rFl S N.2.1 (rF g k N) t then 0 else min 9 (N.1 t + 1)) := by
            have := nI_0lt (b := rFl S N.2.1 (rF g k N) t) (by omega)
            by_cases hq : 0 < rFl S N.2.1 (rF g k N) t
            · rw [if_pos (this.mpr hq), if_pos hq]; rfl
            · rw [if_neg (fun q => hq (this.mp q)), if_neg hq]
          rw [ev, less1 (by omega)]
          exact close _ _ (rH_o hb hS).symm (by rw [rFl_s, hb, hS]; rfl)
    · have : t = n := by
        have : ¬ t < n := fun q => hge (nI_lt q (by omega))
        omega
      subst this
      refine wo_some ?_
      try dsimp only
      exact ⟨rfl, w15, wl, wf⟩
  · rintro ⟨y1, y2, y⟩ ⟨h1, y15, yl, yf⟩
    dsimp only at h1 y15 yl yf ⊢
    subst h1
    have hlf := rFl_le (S := S) (b := N.2.1) (f := rF g k N) n
    have em := eI_m1 e (by omega)
    by_cases hc : e = 0 ∨ 0 < rFl S N.2.1 (rF g k N) n
    · rw [if_neg (fun q => hc.elim (fun h => q.1 (em.mpr h)) (fun h => nI_ne0 h (by omega) q.2))]
      rw [sa_nI (σ := y) (k := k + 1) (nI_1 k) (by omega) (by decide)]
      simp only [Option.bind_some]
      have ef : (if eI e = -1 then nI (rFl S N.2.1 (rF g k N) n) else nI (rFl S N.2.1 (rF g k N) n) - 1) = nI (rSt S g n k N e).2.2 := by
        show _ = nI (rFl S N.2.1 (rF g k N) n - (if e = 0 then 0 else 1))
        by_cases h0 : e = 0
        · rw [if_pos (em.mpr h0), if_pos h0]; rfl
        · rw [if_neg (fun q => h0 (em.mp q)), if_neg h0]
          have : 1 ≤ rFl S N.2.1 (rF g k N) n := hc.elim (fun h => absurd h h0) id
          exact pk_sub (b := 1) this
      rw [ef, ag_nI (i := 17) (n := 6) (j := nI k) (k := k) rfl (by omega) (by decide), up_pl (by decide), yf 17 (by decide), c17]
      simp only [Option.bind_some]
      rw [sa_nI (i := 17) (n := 6) (k := k + 1) (nI_1 k) (by omega) (by decide)]
      simp only [Option.bind_some]
      refine wo_bind (wo_mono (Q := fun z => z.2 17 (k + 1) = nI (bs (rSt S g n k N e).2.1 n) ∧ (∀ j, j ≤ k → z.2 17 j = σ 17 j) ∧ ∀ i, i ≠ 17 → z.2 i = up y 16 (k + 1) (nI (rSt S g n k N e).2.2) i) ?_ ?_)
      · refine lpW2 n (fun t p w => p = nI t ∧ w 17 (k + 1) = nI (bs (fun q => N.2.1 q || (decide (q < t) && decide (rH S N.2.1 N.1 (rF g k N) e q = 9))) n) ∧ (∀ j, j ≤ k → w 17 j = σ 17 j) ∧ ∀ i, i ≠ 17 → w i = up y 16 (k + 1) (nI (rSt S g n k N e).2.2) i) ?_ fuelN 0 _ _ (Nat.zero_le _) (fuel_ok (by omega)) ⟨rfl, ?_, fun j hj => ?_, fun i hi => up_pl hi⟩
        · rintro rec t p w ht ⟨rfl, w17, wl, wf⟩ IH
          rw [wf 14 (by decide), up_pl (by decide), yf 14 (by decide), c6]
          refine wo_ite (fun hlt => ?_) (fun hge => ?_)
          · have htn : t < n := (nI_ltI (by omega) (by omega)).mp hlt
            have e2 : nI k * 6 + 6 + nI t = nI ((k + 1) * 6 + t) := by
              show nI k * nI 6 + nI 6 + nI t = _
              rw [pk_mul, nI_add, nI_add]
              congr 1
              omega
            have hr9 := rH_le (S := S) (b := N.2.1) (h := N.1) (f := rF g k N) (e := e) (hh t htn)
            rw [ag_nI (σ := w) e2 (by omega) (by decide), wf 15 (by decide), up_pl (by decide), y15 t htn]
            simp only [Option.bind_some]
            rw [nI_1 t]
            have e9 : nI (rH S N.2.1 N.1 (rF g k N) e t) = 9 ↔ rH S N.2.1 N.1 (rF g k N) e t = 9 := nI_eq (b := 9) (by omega) (by omega)
            by_cases hq : rH S N.2.1 N.1 (rF g k N) e t = 9
            · rw [if_pos (e9.mpr hq), ag_nI (σ := w) (i := 17) (n := 6) (k := k + 1) (nI_1 k) (by omega) (by decide), w17]
              simp only [Option.bind_some]
              rw [sa_nI (i := 17) (n := 6) (k := k + 1) (nI_1 k) (by omega) (by decide), orB hn htn]
              simp only [Option.bind_some]
              refine IH _ _ htn ⟨rfl, ?_, fun j hj => by rw [up_off (by omega)]; exact wl j hj, fun i hi => by rw [up_pl hi]; exact wf i hi⟩
              rw [up_at]
              congr 1
              refine bs_congr (fun q _ => ?_)
              by_cases hqt : q = t
              · subst hqt
                simp [hq]
              · by_cases h1 : q < t
                · simp [h1, hqt, show q < t + 1 by omega]
                · simp [h1, hqt, show ¬ q < t + 1 by omega]
            · rw [if_neg (fun q => hq (e9.mp q))]
              simp only [Option.bind_some]
              refine IH _ _ htn ⟨rfl, ?_, wl, wf⟩
              rw [w17]
              congr 1
              refine bs_congr (fun q _ => ?_)
              by_cases hqt : q = t
              · subst hqt
                simp [hq]
              · by_cases h1 : q < t
                · simp [h1, show q < t + 1 by omega]
                · simp [h1, show ¬ q < t + 1 by omega]
          · have : t = n := by
              have : ¬ t < n := fun q => hge (nI_lt q (by omega))
              omega
            subst this
            refine wo_some ?_
            try dsimp only
            refine ⟨?_, wl, wf⟩
            rw [w17]
            congr 1
            refine bs_congr (fun q hq => ?_)
            show _ = (N.2.1 q || decide (rH S N.2.1 N.1 (rF g k N) e q = 9))
            rw [decide_eq_true hq, Bool.true_and]
        · rw [up_at]
          congr 1
          exact bs_congr (fun q _ => by simp)
        · rw [up_off (by omega), up_pl (by decide), yf 17 (by decide)]
      · rintro ⟨z1, z⟩ ⟨z17, zl, zf⟩
        dsimp only at z17 zl zf ⊢
        refine wo_some ?_
        try dsimp only
        refine ⟨(decide_eq_true hc).symm, fun _ => ⟨fun p hp => ?_, ?_, z17⟩, fun i h1 h2 h3 => ?_, fun j hj => ?_, fun j hj => ⟨?_, zl j hj⟩⟩
        · rw [zf 15 (by decide), up_pl (by decide)]; exact y15 p hp
        · rw [zf 16 (by decide), up_at]
        · rw [zf i h3, up_pl h2]; exact yf i h1
        · rw [zf 15 (by decide), up_pl (by decide)]; exact yl j hj
        · rw [zf 16 (by decide), up_off (by omega), yf 16 (by decide)]
    · have h0 : rFl S N.2.1 (rF g k N) n = 0 := by
        have : ¬ 0 < rFl S N.2.1 (rF g k N) n := fun q => hc (Or.inr q)
        omega
      rw [if_pos ⟨fun q => hc (Or.inl (em.mp q)), by rw [h0]; rfl⟩]
      refine wo_some ?_
      try dsimp only
      exact ⟨(decide_eq_false hc).symm, fun q => (by cases q), fun i h1 _ _ => yf i h1, yl, fun j _ => ⟨by rw [yf 16 (by decide)], by rw [yf 17 (by decide)]⟩⟩
def LV (S R : Nat → Bool) (g : Nat → Nat) (n W k : Nat) (N : ND) (row : Nat → Nat) (σ : St) : Prop := (σ 14 6 = nI n ∧ σ 14 7 = nI (bs S n) ∧ σ 14 8 = nI (bs R n) ∧ σ 14 9 = nI W) ∧ (∀ p, p < n → σ 15 (k * 6 + p) = nI (N.1 p)) ∧ σ 16 k = nI N.2.2 ∧ σ 17 k = nI (bs N.2.1 n) ∧ (∀ i, i < W → σ 18 i = nI (g i)) ∧ ∀ i, i < k → σ 19 i = eI (row i)
def AC (W : Nat) (acc : RA) (σ : St) : Prop := σ 14 10 = nI acc.1 ∧ (acc.1 ≤ 6 → ∀ i, i < W → σ 20 i = eI (acc.2 i))
def FC (k : Nat) (σ s : St) : Prop := (∀ i, i < 14 ∨ 20 < i → s i = σ i) ∧ (∀ j, j < (k + 1) * 6 → s 15 j = σ 15 j) ∧ (∀ j, j ≤ k → s 16 j = σ 16 j ∧ s 17 j = σ 17 j) ∧ s 18 = σ 18 ∧ (∀ j, j < k → s 19 j = σ 19 j) ∧ ∀ j, j ≠ 10 → s 14 j = σ 14 j
theorem FC.rfl' {k : Nat} {σ : St} : FC k σ σ := ⟨fun _ _ => rfl, fun _ _ => rfl, fun _ _ => ⟨rfl, rfl⟩, rfl, fun _ _ => rfl, fun _ _ => rfl⟩
theorem FC.tr {k l : Nat} {σ s w : St} (h : FC k σ s) (h' : FC l s w) (hl : k ≤ l) : FC k σ w := ⟨fun i hi => (h'.1 i hi).trans (h.1 i hi), fun j hj => (h'.2.1 j (by omega)).trans (h.2.1 j hj), fun j hj => ⟨(h'.2.2.1 j (by omega)).1.trans (h.2.2.1 j hj).1, (h'.2.2.1 j (by omega)).2.trans (h.2.2.1 j hj).2⟩, h'.2.2.2.1.trans h.2.2.2.1, fun j hj => (h'.2.2.2.2.1 j (by omega)).trans (h.2.2.2.2.1 j hj), fun j hj => (h'.2.2.2.2.2 j hj).trans (h.2.2.2.2.2 j hj)⟩
theorem LV.fc {S R : Nat → Bool} {g : Nat → Nat} {n W k : Nat} {N : ND} {row : Nat → Nat} {σ s : St} (hn : n ≤ 6) (h : LV S R g n W k N row σ) (f : FC k σ s) : LV S R g n W k N row s := by
  obtain ⟨⟨a1, a2, a3, a4⟩, b, c, d, e, r⟩ := h
  obtain ⟨f1, f2, f3, f4, f5, f6⟩ := f
  refine ⟨⟨by rw [f6 6 (by decide)]; exact a1, by rw [f6 7 (by decide)]; exact a2, by rw [f6 8 (by decide)]; exact a3, by rw [f6 9 (by decide)]; exact a4⟩, fun p hp => by rw [f2 _ (by omega)]; exact b p hp, by rw [(f3 k (Nat.le_refl _)).1]; exact c, by rw [(f3 k (Nat.le_refl _)).2]; exact d, fun i hi => by rw [f4]; exact e i hi, fun i hi => by rw [f5 i hi]; exact r i hi⟩
theorem search9 {S R : Nat → Bool} {g : Nat → Nat} {n W : Nat} (hn : n ≤ 6) (hW : W ≤ 5) (hg : ∀ i, i < W → g i ≤ 99) : ∀ (d D k : Nat) (N : ND) (row : Nat → Nat) (acc : RA) (σ : St), d < D → k + d = W → okN n N → LV S R g n W k N row σ → AC W acc σ → acc.1 ≤ 2000000000 → Wo (q9_search D σ (nI k)) (fun s => AC W (rRun S R g n d k N row acc) s ∧ FC k σ s)
  | d, 0, k, N, row, acc, σ, hD, _, _, _, _, _ => absurd hD (Nat.not_lt_zero _)
  | d, D + 1, k, N, row, acc, σ, hD, hkd, hN, hL, hA, hM => by
    obtain ⟨⟨a1, a2, a3, a4⟩, b, c, dd, e, r⟩ := hL
    show Wo (q9_searchB (q9_search D) σ (nI k)) _
    unfold q9_searchB
    dsimp only [lt]
    have hct := cn_top (P := N.2.1) n
    rw [ag_nI (σ := σ) (i := 17) (n := 6) (j := nI k) (k := k) rfl (by omega) (by decide), dd]
    simp only [Option.bind_some]
    rw [bcount_bs hn, hA.1]
    by_cases hle : acc.1 ≤ cn N.2.1 n
    · rw [if_pos (nI_le hle (by omega)), rRun_keep d k N row acc hle]
      refine wo_some ?_
      try dsimp only
      exact ⟨hA, FC.rfl'⟩
    · rw [if_neg (fun q => hle ((nI_leI (by omega) (by omega)).mp q)), a4]
      cases d with
      | zero =>
        have hkW : k = W := by omega
        subst hkW
        rw [if_pos (nI_le (Nat.le_refl _) (by omega)), rRun_0, if_pos (by omega)]
        have e9 : up σ 14 10 (nI (cn N.2.1 n)) 14 9 = nI k := by rw [up_off (by decide)]; exact a4
        rw [e9]
        obtain ⟨κ, eκ, k1, k2⟩ := acp_g (σ := up σ 14 10 (nI (cn N.2.1 n))) (a := 19) (na := 5) (b := 20) (nb := 5) (n := k) rfl (by omega) (by omega) (by omega)
        rw [eκ]
        refine wo_some ?_
        try dsimp only
        refine ⟨⟨?_, fun _ i hi => ?_⟩, ?_⟩
        · rw [k2 14 (by decide), up_at]
        · rw [k1 i hi, up_pl (by decide)]; exact r i hi
        · refine ⟨fun i hi => ?_, fun j _ => ?_, fun j _ => ⟨?_, ?_⟩, ?_, fun j _ => ?_, fun j hj => ?_⟩
          · rw [k2 i (by omega), up_pl (by omega)]
          · rw [k2 15 (by decide), up_pl (by decide)]
          · rw [k2 16 (by decide), up_pl (by decide)]
          · rw [k2 17 (by decide), up_pl (by decide)]
          · rw [k2 18 (by decide), up_pl (by decide)]
          · rw [k2 19 (by decide), up_pl (by decide)]
          · rw [k2 14 (by decide), up_off hj]
      | succ d =>
        rw [if_neg (fun q => by have := (nI_leI (by omega) (by omega)).mp q; omega), rRun_s]
        refine wo_bind (wo_mono (Q := fun y => AC W (rIt (rCh S R g n d k N row) (n + 1) 0 acc) y.2 ∧ FC k σ y.2) ?_ (fun y hy => wo_some hy))
        refine lpW2 (n + 1) (fun j p w => p = eI j ∧ AC W (rIt (rCh S R g n d k N row) j 0 acc) w ∧ FC k σ w) ?_ fuelN 0 _ _ (Nat.zero_le _) (fuel_ok (by omega)) ⟨eI_0.symm, hA, FC.rfl'⟩
        rintro rec j p w hj ⟨rfl, wA, wF⟩ IH
        obtain ⟨⟨b1, b2, b3, b4⟩, bb, bc, bd, be, br⟩ := LV.fc hn ⟨⟨a1, a2, a3, a4⟩, b, c, dd, e, r⟩ wF
        have bM : (rIt (rCh S R g n d k N row) j 0 acc).1 ≤ 2000000000 := rIt_pres (P := fun a : RA => a.1 ≤ 2000000000) (fun i a q => by unfold rCh; split <;> first | exact rRun_le _ _ _ _ _ q | exact q) _ _ _ hM
        rw [b1]
        refine wo_ite (fun hlt => ?_) (fun hge => ?_)
        · have hjn : j < n + 1 := (eI_lt n (by omega) j (by omega)).mp hlt
          have hok : (Option.bind (if eI j = (-1) then (some true) else (Option.bind (ag w 17 6 (nI k)) fun x39_ =>
  if q11_isIn ((w 14 8) &&& (x39_ ^^^ (-1))) (eI j) = true then (some true) else (some false))) fun t36_ =>
  if t36_ = true then (some true) else (some false)) = some (decide (j = 0) || (R (j - 1) && !N.2.1 (j - 1))) := by
            cases j with
            | zero => rfl
            | succ i =>
              rw [eI_1, if_neg (nI_m1 (by omega)), ag_nI (σ := w) (i := 17) (n := 6) (j := nI k) (k := k) rfl (by omega) (by decide), bd, b3]
              simp only [Option.bind_some]
              rw [run_bs hn, isIn_bs hn (show i < n by omega)]
              show _ = some (false || (R i && !N.2.1 i))
              rw [Bool.false_or]
              cases (R i && !N.2.1 i) <;> rfl
          rw [hok]
          simp only [Option.bind_some]
          rw [eI_s]
          have hch : rIt (rCh S R g n d k N row) (j + 1) 0 acc = rCh S R g n d k N row j (rIt (rCh S R g n d k N row) j 0 acc) := by rw [rIt_s, Nat.zero_add]
          by_cases hfr : (decide (j = 0) || (R (j - 1) && !N.2.1 (j - 1))) = true
          · rw [if_pos hfr]
            obtain ⟨⟨r1, r2⟩, er, q1, q2, q3, q4, q5⟩ := bake9 (S := S) (g := g) (e := j) hn (by omega) (by omega) hN (hg k (by omega)) b1 b2 bb bc bd (be k (by omega))
            dsimp only at q1 q2 q3 q4 q5
            rw [er]
            simp only [Option.bind_some]
            have hok2 : rOk S R g n k N j = r1 := by
              rw [q1]
              unfold rOk
              by_cases h0 : j = 0
              · rw [decide_eq_true h0, decide_eq_true (Or.inl h0), Bool.true_or]
              · rw [decide_eq_false h0, Bool.false_or] at hfr ⊢
                rw [hfr, Bool.true_and]
                by_cases h1 : 0 < rFl S N.2.1 (rF g k N) n
                · rw [decide_eq_true h1, decide_eq_true (Or.inr h1)]
                · rw [decide_eq_false h1, decide_eq_false (fun q => q.elim h0 h1)]
            have wk : FC k w r2 := ⟨fun i hi => q3 i (by omega) (by omega) (by omega), q4, q5, q3 18 (by decide) (by decide) (by decide), fun i _ => by rw [q3 19 (by decide) (by decide) (by decide)], fun i _ => by rw [q3 14 (by decide) (by decide) (by decide)]⟩
            cases r1 with
            | true =>
              obtain ⟨v1, v2, v3⟩ := q2 rfl
              simp only [if_true, Option.bind_some]
              rw [sa_nI (σ := r2) (i := 19) (n := 5) (j := nI k) (k := k) rfl (by omega) (by decide)]
              simp only [Option.bind_some]
              rw [nI_1]
              have hLc : LV S R g n W (k + 1) (rSt S g n k N j) (rRow row k j) (up r2 19 k (eI j)) := by
                have e14 : up r2 19 k (eI j) 14 = w 14 := by rw [up_pl (by decide)]; exact q3 14 (by decide) (by decide) (by decide)
                refine ⟨⟨by rw [e14]; exact b1, by rw [e14]; exact b2, by rw [e14]; exact b3, by rw [e14]; exact b4⟩, fun p hp => by rw [up_pl (by decide)]; exact v1 p hp, by rw [up_pl (by decide)]; exact v2, by rw [up_pl (by decide)]; exact v3, fun i hi => ?_, fun i hi => ?_⟩
                · rw [up_pl (by decide), q3 18 (by decide) (by decide) (by decide)]; exact be i hi
                · by_cases hik : i = k
                  · subst hik
                    rw [up_at]
                    unfold rRow
                    rw [if_pos rfl]
                  · rw [up_off hik, q3 19 (by decide) (by decide) (by decide), br i (by omega)]
                    unfold rRow
                    rw [if_neg hik]
              have hAc : AC W (rIt (rCh S R g n d k N row) j 0 acc) (up r2 19 k (eI j)) := by
                refine ⟨?_, fun h6 i hi => ?_⟩
                · rw [up_pl (by decide), q3 14 (by decide) (by decide) (by decide)]; exact wA.1
                · rw [up_pl (by decide), q3 20 (by decide) (by decide) (by decide)]; exact wA.2 h6 i hi
              obtain ⟨x, ex, xA, xF⟩ := search9 hn hW hg d D (k + 1) _ (rRow row k j) _ _ (by omega) (by omega) hN.st hLc hAc bM
              rw [ex]
              simp only [Option.bind_some]
              refine IH _ _ hjn ⟨rfl, ?_, ?_⟩
              · rw [hch]
                unfold rCh
                rw [hok2, if_pos rfl]
                exact xA
              · refine wF.tr (wk.tr (?_ : FC k r2 x) (Nat.le_refl _)) (Nat.le_refl _)
                have f0 : FC k r2 (up r2 19 k (eI j)) := ⟨fun i hi => up_pl (by omega), fun i _ => by rw [up_pl (by decide)], fun i _ => ⟨by rw [up_pl (by decide)], by rw [up_pl (by decide)]⟩, up_pl (by decide), fun i hi => up_off (by omega), fun i _ => by rw [up_pl (by decide)]⟩
                exact f0.tr xF (by omega)
            | false =>
              simp only [Bool.false_eq_true, if_false, Option.bind_some]
              refine IH _ _ hjn ⟨rfl, ?_, wF.tr wk (Nat.le_refl _)⟩
              rw [hch]
              unfold rCh
              rw [hok2, if_neg (by decide)]
              refine ⟨?_, fun h6 i hi => ?_⟩
              · rw [q3 14 (by decide) (by decide) (by decide)]; exact wA.1
              · rw [q3 20 (by decide) (by decide) (by decide)]; exact wA.2 h6 i hi
          · rw [if_neg hfr]
            simp only [Option.bind_some, Bool.false_eq_true, if_false]
            refine IH _ _ hjn ⟨rfl, ?_, wF⟩
            rw [hch]
            unfold rCh
            rw [if_neg]
            · exact wA
            · intro q
              apply hfr
              unfold rOk at q
              rw [Bool.or_eq_true, Bool.and_eq_true] at q
              rw [Bool.or_eq_true]
              exact q.imp id (fun x => x.1)
        · have : j = n + 1 := by
            have : ¬ j < n + 1 := fun q => hge ((eI_lt n (by omega) j (by omega)).mpr q)
            omega
          subst this
          refine wo_some ?_
          try dsimp only
          exact ⟨wA, wF⟩

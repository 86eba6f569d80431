/-! LAYER 2: ROTA BY THE REFERENCE -/
def LM (R : Nat → Bool) (n k : Nat) (N : ND) (row : Nat → Nat) (m : Nat → Int32) (μ : St) : Prop := μ 1 = m ∧ μ 0 21 = nI (bs R n) ∧ (∀ p, p < n → μ 10 (7 * k + p) = nI (N.1 p)) ∧ μ 12 k = nI N.2.2 ∧ μ 11 k = nI (bs N.2.1 n) ∧ ∀ i, i < k → μ 13 i = eI (row i)
def AM (W : Nat) (acc : RA) (μ : St) : Prop := acc.1 ≤ 6 → ∀ i, i < W → μ 9 i = eI (acc.2 i)
def FM (k : Nat) (μ u : St) : Prop := (∀ i, i < 9 ∨ 13 < i → u i = μ i) ∧ (∀ j, j < 7 * (k + 1) → u 10 j = μ 10 j) ∧ (∀ j, j ≤ k → u 11 j = μ 11 j ∧ u 12 j = μ 12 j) ∧ ∀ j, j < k → u 13 j = μ 13 j
theorem FM.rfl' {k : Nat} {μ : St} : FM k μ μ := ⟨fun _ _ => rfl, fun _ _ => rfl, fun _ _ => ⟨rfl, rfl⟩, fun _ _ => rfl⟩
theorem FM.tr {k l : Nat} {μ u w : St} (h : FM k μ u) (h' : FM l u w) (hl : k ≤ l) : FM k μ w := ⟨fun i hi => (h'.1 i hi).trans (h.1 i hi), fun j hj => (h'.2.1 j (by omega)).trans (h.2.1 j hj), fun j hj => ⟨(h'.2.2.1 j (by omega)).1.trans (h.2.2.1 j hj).1, (h'.2.2.1 j (by omega)).2.trans (h.2.2.1 j hj).2⟩, fun j hj => (h'.2.2.2 j (by omega)).trans (h.2.2.2 j hj)⟩
theorem LM.fm {R : Nat → Bool} {n k : Nat} {N : ND} {row : Nat → Nat} {m : Nat → Int32} {μ u : St} (hn : n ≤ 6) (h : LM R n k N row m μ) (f : FM k μ u) : LM R n k N row m u := by
  obtain ⟨a, b, c, d, e, r⟩ := h
  obtain ⟨f1, f2, f3, f4⟩ := f
  exact ⟨by rw [f1 1 (by omega)]; exact a, by rw [f1 0 (by omega)]; exact b, fun p hp => by rw [f2 _ (by omega)]; exact c p hp, by rw [(f3 k (Nat.le_refl _)).2]; exact d, by rw [(f3 k (Nat.le_refl _)).1]; exact e, fun i hi => by rw [f4 i hi]; exact r i hi⟩
/-- what the row of the reference says of the weeks -/
def GM (S : Nat → Bool) (g : Nat → Nat) (n W : Nat) (m : Nat → Int32) : Prop := m 3 = nI n ∧ (∀ p, p < n → (m (14 + 7 * p + 3) = 0 ∧ S p = false) ∨ (m (14 + 7 * p + 3) = 1 ∧ S p = true)) ∧ ∃ wk, wk ≤ 9999 ∧ m 4 = nI wk ∧ ∀ k, k < W → g k ≤ 99 ∧ m (10 + min 9999 (wk + k) % 4) = nI (g k)
theorem flrM {S : Nat → Bool} {g : Nat → Nat} {n W k : Nat} {N : ND} {R : Nat → Bool} {row : Nat → Nat} {m : Nat → Int32} {μ : St} (hW : W ≤ 5) (hk : k < W) (hG : GM S g n W m) (hN : okN n N) (hL : LM R n k N row m μ) : ∃ wk, ag μ 12 8 (nI k) = some (nI N.2.2) ∧ ag μ 1 752 4 = some (nI wk) ∧ ag μ 1 752 (10 + (irm (q12_lesser 9999 (nI wk + nI k)) 4)) = some (nI (g k)) ∧ q12_lesser 9999 (nI N.2.2 + nI (g k)) = nI (rF g k N) := by
  obtain ⟨h3, hS, wk, hwk, h4, hg⟩ := hG
  obtain ⟨l1, l2, l3, l4, l5, l6⟩ := hL
  obtain ⟨g1, g2⟩ := hg k hk
  have e1 : q12_lesser 9999 (nI wk + nI k) = nI (min 9999 (wk + k)) := by
    rw [← imin_le, nI_add, show (9999 : Int32) = nI 9999 from rfl, imin_nI (by omega) (by omega)]
  have e2 : (10 : Int32) + irm (nI (min 9999 (wk + k))) 4 = nI (10 + min 9999 (wk + k) % 4) := by
    rw [irm4 (by omega)]
    exact nI_add 10 _
  refine ⟨wk, ?_, ?_, ?_, ?_⟩
  · rw [ag_nI (σ := μ) (i := 12) (n := 8) (j := nI k) (k := k) rfl (by omega) (by decide), l4]
  · rw [ag_m (μ := μ) (j := 4) (k := 4) rfl (by decide), l1, h4]
  · rw [e1, e2, ag_m (μ := μ) rfl (by omega), l1, g2]
  · rw [← imin_le, flr9 hN.2 g1]
    rfl
theorem give9 {S R : Nat → Bool} {g : Nat → Nat} {n W k e : Nat} {N : ND} {row : Nat → Nat} {m : Nat → Int32} {μ : St} (hn : n ≤ 6) (hW : W ≤ 5) (hk : k < W) (he : e ≤ n) (hG : GM S g n W m) (hN : okN n N) (hL : LM R n k N row m μ) : q12_mayGive μ (nI k) (eI e) = some (rOk S R g n k N e) := by
  cases e with
  | zero => rfl
  | succ i =>
    have hL' := hL
    obtain ⟨l1, l2, l3, l4, l5, l6⟩ := hL
    rw [eI_1]
    unfold q12_mayGive
    dsimp only [lt]
    have hF : rF g k N ≤ 9999 := Nat.min_le_left _ _
    rw [if_neg (nI_m1 (by omega)), isOf_isIn, l2, isIn_bs hn (show i < n by omega), ag_nI (σ := μ) (i := 11) (n := 8) (j := nI k) (k := k) rfl (by omega) (by decide), l5]
    simp only [Option.bind_some]
    rw [isOf_isIn, isIn_bs hn (show i < n by omega)]
    have er : rOk S R g n k N (i + 1) = (R i && !N.2.1 i && decide (0 < rFl S N.2.1 (rF g k N) n)) := rfl
    rw [er]
    cases hR : R i with
    | false =>
      simp only [Bool.false_eq_true, if_false, Option.bind_some, if_true, Bool.false_and]
    | true =>
      simp only [if_true]
      cases hb : N.2.1 i with
      | true =>
        simp only [if_true, Option.bind_some, Bool.not_true, Bool.and_false, Bool.false_and]
      | false =>
        simp only [Bool.false_eq_true, if_false, Option.bind_some, Bool.not_false, Bool.and_true, Bool.true_and]
        obtain ⟨wk, m1, m2, m3, m4⟩ := flrM hW hk hG hN hL'
        rw [m1, m2]
        simp only [Option.bind_some]
        rw [m3]
        simp only [Option.bind_some]
        rw [m4]
        have key : Wo (loop2 (fun rec25_ (flour28_ : Int32) (p29_ : Int32) =>
  Option.bind (ag μ 1 752 3) fun x34_ =>
  if p29_ < x34_ then
  Option.bind (Option.bind (if q12_isOf (nI (bs N.2.1 n)) p29_ = true then (some false) else (Option.bind (q12_of μ p29_ 3) fun x48_ =>
  if x48_ = 0 then (some true) else (some false))) fun t43_ =>
  if t43_ = true then (some (q12_greater 0 (flour28_ - 1))) else (some (flour28_))) fun y38_ =>
  rec25_ y38_ (p29_ + 1)
  else (some (flour28_, p29_))) fuelN (nI (rF g k N)) (0 : Int32)) (fun y => y.1 = nI (rFl S N.2.1 (rF g k N) n)) := by
          refine lpW2 n (fun t fl p => fl = nI (rFl S N.2.1 (rF g k N) t) ∧ p = nI t) ?_ fuelN 0 _ _ (Nat.zero_le _) (fuel_ok (by omega)) ⟨rfl, rfl⟩
          rintro rec t fl p ht ⟨rfl, rfl⟩ IH
          have hlf := rFl_le (S := S) (b := N.2.1) (f := rF g k N) t
          rw [ag3, l1, hG.1]
          simp only [Option.bind_some]
          refine wo_ite (fun hlt => ?_) (fun hge => ?_)
          · have htn : t < n := (nI_ltI (by omega) (by omega)).mp hlt
            rw [isOf_isIn, isIn_bs hn htn, of3 (by omega), l1, nI_1]
            cases hbt : N.2.1 t with
            | true =>
              simp only [if_true, Option.bind_some, Bool.false_eq_true, if_false]
              exact IH _ _ htn ⟨by rw [rFl_s, hbt]; rfl, rfl⟩
            | false =>
              simp only [Bool.false_eq_true, if_false, Option.bind_some]
              rcases hG.2.1 t htn with ⟨s1, s2⟩ | ⟨s1, s2⟩
              · rw [s1, if_pos rfl]
                simp only [if_true, Option.bind_some]
                rw [← imax_gr, less1 (by omega)]
                exact IH _ _ htn ⟨by rw [rFl_s, hbt, s2]; rfl, rfl⟩
              · rw [s1, if_neg (by decide)]
                simp only [Bool.false_eq_true, if_false, Option.bind_some]
                exact IH _ _ htn ⟨by rw [rFl_s, hbt, s2]; rfl, rfl⟩
          · have : t = n := by
              have : ¬ t < n := fun q => hge (nI_lt q (by omega))
              omega
            subst this
            exact wo_some rfl
        obtain ⟨y, ey, hy⟩ := key
        rw [ey]
        simp only [Option.bind_some]
        rw [hy]
        have hlf := rFl_le (S := S) (b := N.2.1) (f := rF g k N) n
        congr 1
        exact decide_eq_decide.mpr (nI_0lt (by omega))
theorem turns9 {S R : Nat → Bool} {g : Nat → Nat} {n W k e : Nat} {N : ND} {row : Nat → Nat} {m : Nat → Int32} {μ : St} (hn : n ≤ 6) (hW : W ≤ 5) (hk : k < W) (he : e ≤ n) (hG : GM S g n W m) (hN : okN n N) (hL : LM R n k N row m μ) (hok : rOk S R g n k N e = true) : Wo (q12_turns μ (nI k) (eI e)) (fun u => (∀ p, p < n → u 10 (7 * (k + 1) + p) = nI ((rSt S g n k N e).1 p)) ∧ u 12 (k + 1) = nI (rSt S g n k N e).2.2 ∧ u 11 (k + 1) = nI (bs (rSt S g n k N e).2.1 n) ∧ (∀ i, i ≠ 10 → i ≠ 11 → i ≠ 12 → u i = μ i) ∧ (∀ j, j < 7 * (k + 1) → u 10 j = μ 10 j) ∧ ∀ j, j ≤ k → u 11 j = μ 11 j ∧ u 12 j = μ 12 j) := by
  have hL' := hL
  obtain ⟨l1, l2, l3, l4, l5, l6⟩ := hL
  obtain ⟨hh, hf⟩ := id hN
  have hF : rF g k N ≤ 9999 := Nat.min_le_left _ _
  have em := eI_m1 e (by omega)
  unfold q12_turns
  dsimp only [lt]
  obtain ⟨wk, m1, m2, m3, m4⟩ := flrM hW hk hG hN hL'
  rw [m1, m2]
  simp only [Option.bind_some]
  rw [m3]
  simp only [Option.bind_some]
  rw [m4, ag_nI (σ := μ) (i := 11) (n := 8) (j := nI k) (k := k) rfl (by omega) (by decide), l5]
  simp only [Option.bind_some]
  have ix1 : ∀ t, (7 : Int32) * nI k + nI t = nI (7 * k + t) := fun t => ix_7 k t
  have ix2 : ∀ t, (7 : Int32) * nI k + 7 + nI t = nI (7 * (k + 1) + t) := fun t => by
    show nI 7 * nI k + nI 7 + nI t = _
    rw [pk_mul, nI_add, nI_add]
    congr 1
  refine wo_bind (wo_mono (Q := fun y => y.1 = nI (rFl S N.2.1 (rF g k N) n) ∧ (∀ q, q < n → y.2.2 10 (7 * (k + 1) + q) = nI (if N.2.1 q = true then N.1 q else if S q = true then N.1 q else rH S N.2.1 N.1 (rF g k N) e q)) ∧ (∀ j, j < 7 * (k + 1) → y.2.2 10 j = μ 10 j) ∧ ∀ i, i ≠ 10 → y.2.2 i = μ i) ?_ ?_)
  · refine lpW3 n (fun t fl p w => fl = nI (rFl S N.2.1 (rF g k N) t) ∧ p = nI t ∧ (∀ q, q < t → w 10 (7 * (k + 1) + q) = nI (if N.2.1 q = true then N.1 q else if S q = true then N.1 q else rH S N.2.1 N.1 (rF g k N) e q)) ∧ (∀ j, j < 7 * (k + 1) → w 10 j = μ 10 j) ∧ ∀ i, i ≠ 10 → w i = μ i) ?_ fuelN 0 _ _ _ (Nat.zero_le _) (fuel_ok (by omega)) ⟨rfl, rfl, fun q hq => absurd hq (Nat.not_lt_zero _), fun _ _ => rfl, fun _ _ => rfl⟩
    rintro rec t fl p w ht ⟨rfl, rfl, w10, wl, wf⟩ IH
    have hlf := rFl_le (S := S) (b := N.2.1) (f := rF g k N) t
    rw [ag3, wf 1 (by decide), l1, hG.1]
    simp only [Option.bind_some]
    refine wo_ite (fun hlt => ?_) (fun hge => ?_)
    · have htn : t < n := (nI_ltI (by omega) (by omega)).mp hlt
      rw [ag_nI (σ := w) (i := 10) (ix1 t) (by omega) (by decide), wl _ (by omega), l3 t htn, isOf_isIn, isIn_bs hn htn, of3 (by omega), wf 1 (by decide), l1]
      simp only [Option.bind_some]
      have close : ∀ (X fl' : Nat), X = (if N.2.1 t = true then N.1 t else if S t = true then N.1 t else rH S N.2.1 N.1 (rF g k N) e t) → fl' = rFl S N.2.1 (rF g k N) (t + 1) → Wo (rec (nI fl') (nI t + 1) (up w 10 (7 * (k + 1) + t) (nI X))) (fun y => y.1 = nI (rFl S N.2.1 (rF g k N) n) ∧ (∀ q, q < n → y.2.2 10 (7 * (k + 1) + q) = nI (if N.2.1 q = true then N.1 q else if S q = true then N.1 q else rH S N.2.1 N.1 (rF g k N) e q)) ∧ (∀ j, j < 7 * (k + 1) → y.2.2 10 j = μ 10 j) ∧ ∀ i, i ≠ 10 → y.2.2 i = μ i) := fun X fl' hX hfl => by
        rw [nI_1]
        refine IH _ _ _ htn ⟨by rw [hfl], rfl, fun q hq => ?_, fun j hj => by rw [up_off (by omega)]; exact wl j hj, fun i hi => by rw [up_pl hi]; exact wf i hi⟩
        by_cases hqt : q = t
        · subst hqt; rw [up_at, hX]
        · rw [up_off (by omega)]; exact w10 q (by omega)
      cases hb : N.2.1 t with
      | true =>
        simp only [if_true, Option.bind_some, Bool.false_eq_true, if_false]
        rw [sa_nI (ix2 t) (by omega) (by decide)]
        simp only [Option.bind_some]
        exact close _ _ (by rw [if_pos hb]) (by rw [rFl_s, hb]; rfl)
      | false =>
        simp only [Bool.false_eq_true, if_false, Option.bind_some]
        rcases hG.2.1 t htn with ⟨s1, s2⟩ | ⟨s1, s2⟩
        · rw [s1, if_pos rfl]
          simp only [if_true, Option.bind_some]
          rw [sa_nI (ix2 t) (by omega) (by decide)]
          simp only [Option.bind_some]
          have el := nI_0lt (b := rFl S N.2.1 (rF g k N) t) (by omega)
          by_cases hq : 0 < rFl S N.2.1 (rF g k N) t
          · rw [if_pos (el.mpr hq), if_pos (el.mpr hq), show nI (rFl S N.2.1 (rF g k N) t) - 1 = nI (rFl S N.2.1 (rF g k N) t - 1) from pk_sub (b := 1) hq]
            exact close 0 _ (by rw [hb, s2, if_neg Bool.false_ne_true, if_neg Bool.false_ne_true, rH_o hb s2, if_pos hq]) (by rw [rFl_s, hb, s2]; rfl)
          · rw [if_neg (fun q => hq (el.mp q)), if_neg (fun q => hq (el.mp q)), ← imin_le, more9 (hh t htn), Int32.sub_zero]
            exact close _ _ (by rw [hb, s2, if_neg Bool.false_ne_true, if_neg Bool.false_ne_true, rH_o hb s2, if_neg hq]) (by rw [rFl_s, hb, s2]; show _ = rFl S N.2.1 (rF g k N) t - 1; omega)
        · rw [s1, if_neg (by decide)]
          simp only [Bool.false_eq_true, if_false, Option.bind_some]
          rw [sa_nI (ix2 t) (by omega) (by decide)]
          simp only [Option.bind_some]
          exact close _ _ (by rw [hb, s2, if_neg Bool.false_ne_true, if_pos rfl]) (by rw [rFl_s, hb, s2]; rfl)
    · have : t = n := by
        have : ¬ t < n := fun q => hge (nI_lt q (by omega))
        omega
      subst this
      refine wo_some ?_
      try dsimp only
      exact ⟨rfl, w10, wl, wf⟩
  · rintro ⟨y1, y2, y⟩ ⟨h1, y10, yl, yf⟩
    dsimp only at h1 y10 yl yf ⊢
    subst h1
    refine wo_bind (wo_mono (Q := fun z => (∀ q, q < n → z.2 10 (7 * (k + 1) + q) = nI (rH S N.2.1 N.1 (rF g k N) e q)) ∧ (∀ j, j < 7 * (k + 1) → z.2 10 j = μ 10 j) ∧ ∀ i, i ≠ 10 → z.2 i = μ i) ?_ ?_)
    · refine lpW2 n (fun t p w => p = nI t ∧ (∀ q, q < n → w 10 (7 * (k + 1) + q) = nI (if q < t then rH S N.2.1 N.1 (rF g k N) e q else if N.2.1 q = true then N.1 q else if S q = true then N.1 q else rH S N.2.1 N.1 (rF g k N) e q)) ∧ (∀ j, j < 7 * (k + 1) → w 10 j = μ 10 j) ∧ ∀ i, i ≠ 10 → w i = μ i) ?_ fuelN 0 _ _ (Nat.zero_le _) (fuel_ok (by omega)) ⟨rfl, fun q hq => by rw [if_neg (by omega)]; exact y10 q hq, yl, yf⟩
      rintro rec t p w ht ⟨rfl, w10, wl, wf⟩ IH
      rw [ag3, wf 1 (by decide), l1, hG.1]
      simp only [Option.bind_some]
      refine wo_ite (fun hlt => ?_) (fun hge => ?_)
      · have htn : t < n := (nI_ltI (by omega) (by omega)).mp hlt
        rw [ag_nI (σ := w) (i := 10) (ix2 t) (by omega) (by decide), w10 t htn, if_neg (Nat.lt_irrefl t), isOf_isIn, isIn_bs hn htn, of3 (by omega), wf 1 (by decide), l1, nI_1]
        simp only [Option.bind_some]
        have close : ∀ (X : Nat), X = rH S N.2.1 N.1 (rF g k N) e t → Wo (rec (nI (t + 1)) (up w 10 (7 * (k + 1) + t) (nI X))) (fun z => (∀ q, q < n → z.2 10 (7 * (k + 1) + q) = nI (rH S N.2.1 N.1 (rF g k N) e q)) ∧ (∀ j, j < 7 * (k + 1) → z.2 10 j = μ 10 j) ∧ ∀ i, i ≠ 10 → z.2 i = μ i) := fun X hX => by
          refine IH _ _ htn ⟨rfl, fun q hq => ?_, fun j hj => by rw [up_off (by omega)]; exact wl j hj, fun i hi => by rw [up_pl hi]; exact wf i hi⟩
          by_cases hqt : q = t
          · subst hqt; rw [up_at, hX, if_pos (by omega)]
          · rw [up_off (by omega), w10 q hq]
            by_cases h1 : q < t
            · rw [if_pos h1, if_pos (by omega)]
            · rw [if_neg h1, if_neg (show ¬ q < t + 1 by omega)]
        cases hb : N.2.1 t with
        | true =>
          simp only [if_true]
          refine IH _ _ htn ⟨rfl, fun q hq => ?_, wl, wf⟩
          rw [w10 q hq]
          by_cases hqt : q = t
          · subst hqt
            rw [if_neg (Nat.lt_irrefl q), if_pos hb, if_pos (show q < q + 1 by omega), rH_b hb]
          · by_cases h1 : q < t
            · rw [if_pos h1, if_pos (by omega)]
            · rw [if_neg h1, if_neg (show ¬ q < t + 1 by omega)]
        | false =>
          simp only [Bool.false_eq_true, if_false, Option.bind_some]
          rcases hG.2.1 t htn with ⟨s1, s2⟩ | ⟨s1, s2⟩
          · rw [s1, if_neg (show ¬ (0 : Int32) = 1 by decide), s2]
            simp only [Bool.false_eq_true, if_false, Option.bind_some]
            rw [sa_nI (ix2 t) (by omega) (by decide)]
            simp only [Option.bind_some]
            exact close _ rfl
          · rw [s1, if_pos rfl, s2]
            simp only [if_true, Option.bind_some]
            rw [sa_nI (ix2 t) (by omega) (by decide)]
            simp only [Option.bind_some]
            have ev : (if nI t = eI e then 0 else q12_lesser 9 (nI (N.1 t) + 1)) = nI (if t + 1 = e then 0 else min 9 (N.1 t + 1)) := by
              have := eI_nI e (by omega) t (by omega)
              rw [← imin_le, more9 (hh t htn)]
              by_cases hq : t + 1 = e
              · rw [if_pos (this.mpr hq), if_pos hq]; rfl
              · rw [if_neg (fun q => hq (this.mp q)), if_neg hq]
            rw [ev]
            exact close _ (rH_S hb s2).symm
      · have : t = n := by
          have : ¬ t < n := fun q => hge (nI_lt q (by omega))
          omega
        subst this
        refine wo_some ?_
        try dsimp only
        exact ⟨fun q hq => by rw [w10 q hq, if_pos hq], wl, wf⟩
    · rintro ⟨z1, z⟩ ⟨z10, zl, zf⟩
      dsimp only at z10 zl zf ⊢
      have ef : nI (rFl S N.2.1 (rF g k N) n) - (if eI e = -1 then 0 else 1) = nI (rSt S g n k N e).2.2 := by
        show _ = nI (rFl S N.2.1 (rF g k N) n - (if e = 0 then 0 else 1))
        by_cases h0 : e = 0
        · rw [if_pos (em.mpr h0), if_pos h0, Int32.sub_zero]; rfl
        · rw [if_neg (fun q => h0 (em.mp q)), if_neg h0]
          have h1 : 0 < rFl S N.2.1 (rF g k N) n := by
            unfold rOk at hok
            rw [decide_eq_false h0, Bool.false_or, Bool.and_eq_true] at hok
            exact of_decide_eq_true hok.2
          exact pk_sub (b := 1) h1
      rw [ef, sa_nI (σ := z) (i := 12) (n := 8) (k := k + 1) (nI_1 k) (by omega) (by decide)]
      simp only [Option.bind_some]
      rw [sa_nI (i := 11) (n := 8) (k := k + 1) (nI_1 k) (by omega) (by decide)]
      simp only [Option.bind_some]
      refine wo_bind (wo_mono (Q := fun x => x.2 11 (k + 1) = nI (bs (rSt S g n k N e).2.1 n) ∧ (∀ j, j ≤ k → x.2 11 j = μ 11 j) ∧ ∀ i, i ≠ 11 → x.2 i = up z 12 (k + 1) (nI (rSt S g n k N e).2.2) i) ?_ ?_)
      · refine lpW2 n (fun t p w => p = nI t ∧ w 11 (k + 1) = nI (bs (fun q => N.2.1 q || (decide (q < t) && decide (rH S N.2.1 N.1 (rF g k N) e q = 9))) n) ∧ (∀ j, j ≤ k → w 11 j = μ 11 j) ∧ ∀ i, i ≠ 11 → w i = up z 12 (k + 1) (nI (rSt S g n k N e).2.2) i) ?_ fuelN 0 _ _ (Nat.zero_le _) (fuel_ok (by omega)) ⟨rfl, ?_, fun j hj => ?_, fun i hi => up_pl hi⟩
        · rintro rec t p w ht ⟨rfl, w17, wl, wf⟩ IH
          rw [ag3, wf 1 (by decide), up_pl (by decide), zf 1 (by decide), l1, hG.1]
          simp only [Option.bind_some]
          refine wo_ite (fun hlt => ?_) (fun hge => ?_)
          · have htn : t < n := (nI_ltI (by omega) (by omega)).mp hlt
            have hr9 := rH_le (S := S) (b := N.2.1) (h := N.1) (f := rF g k N) (e := e) (hh t htn)
            rw [isOf_isIn, isIn_bs hn htn, ag_nI (σ := w) (ix2 t) (by omega) (by decide), wf 10 (by decide), up_pl (by decide), z10 t htn]
            simp only [Option.bind_some]
            rw [nI_1 t]
            have e9 : nI (rH S N.2.1 N.1 (rF g k N) e t) = 9 ↔ rH S N.2.1 N.1 (rF g k N) e t = 9 := nI_eq (b := 9) (by omega) (by omega)
            have stay : (N.2.1 t = true ∨ ¬ rH S N.2.1 N.1 (rF g k N) e t = 9) → w 11 (k + 1) = nI (bs (fun q => N.2.1 q || (decide (q < t + 1) && decide (rH S N.2.1 N.1 (rF g k N) e q = 9))) n) := fun hs => by
              rw [w17]
              congr 1
              refine bs_congr (fun q _ => ?_)
              by_cases hqt : q = t
              · subst hqt
                rcases hs with hs | hs
                · simp [hs]
                · simp [hs]
              · by_cases h1 : q < t
                · simp [h1, show q < t + 1 by omega]
                · simp [h1, show ¬ q < t + 1 by omega]
            cases hb : N.2.1 t with
            | true =>
              simp only [if_true, Option.bind_some, Bool.false_eq_true, if_false]
              exact IH _ _ htn ⟨rfl, stay (Or.inl hb), wl, wf⟩
            | false =>
              simp only [Bool.false_eq_true, if_false]
              by_cases hq : rH S N.2.1 N.1 (rF g k N) e t = 9
              · rw [if_pos (show nI (rH S N.2.1 N.1 (rF g k N) e t) = 9 from e9.mpr hq)]
                simp only [Option.bind_some, if_true]
                rw [ag_nI (σ := w) (i := 11) (n := 8) (k := k + 1) (nI_1 k) (by omega) (by decide), w17]
                simp only [Option.bind_some]
                rw [sa_nI (i := 11) (n := 8) (k := k + 1) (nI_1 k) (by omega) (by decide), orB hn htn]
                simp only [Option.bind_some]
                refine IH _ _ htn ⟨rfl, ?_, fun j hj => by rw [up_off (by omega)]; exact wl j hj, fun i hi => by rw [up_pl hi]; exact wf i hi⟩
                rw [up_at]
                congr 1
                refine bs_congr (fun q _ => ?_)
                by_cases hqt : q = t
                · subst hqt
                  simp [hq]
                · by_cases h1 : q < t
                  · simp [h1, hqt, show q < t + 1 by omega]
                  · simp [h1, hqt, show ¬ q < t + 1 by omega]
              · rw [if_neg (show ¬ nI (rH S N.2.1 N.1 (rF g k N) e t) = 9 from fun q => hq (e9.mp q))]
                simp only [Option.bind_some, Bool.false_eq_true, if_false]
                exact IH _ _ htn ⟨rfl, stay (Or.inr hq), wl, wf⟩
          · have : t = n := by
              have : ¬ t < n := fun q => hge (nI_lt q (by omega))
              omega
            subst this
            refine wo_some ?_
            try dsimp only
            refine ⟨?_, wl, wf⟩
            rw [w17]
            congr 1
            refine bs_congr (fun q hq => ?_)
            show _ = (N.2.1 q || decide (rH S N.2.1 N.1 (rF g k N) e q = 9))
            rw [decide_eq_true hq, Bool.true_and]
        · rw [up_at]
          congr 1
          exact bs_congr (fun q _ => by simp)
        · rw [up_off (by omega), up_pl (by decide), zf 11 (by decide)]
      · rintro ⟨x1, x⟩ ⟨x17, xl, xf⟩
        dsimp only at x17 xl xf ⊢
        refine wo_some ?_
        try dsimp only
        refine ⟨fun p hp => ?_, ?_, x17, fun i h1 h2 h3 => ?_, fun j hj => ?_, fun j hj => ⟨xl j hj, ?_⟩⟩
        · rw [xf 10 (by decide), up_pl (by decide)]; exact z10 p hp
        · rw [xf 12 (by decide), up_at]
        · rw [xf i h2, up_pl h3]; exact zf i h1
        · rw [xf 10 (by decide), up_pl (by decide)]; exact zl j hj
        · rw [xf 12 (by decide), up_off (by omega), zf 12 (by decide)]

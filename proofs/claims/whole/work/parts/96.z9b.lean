/-! LAYER 2: BALLOTS BY THE REFERENCE -/
def okB (m : Nat → Int32) (v r : Nat) : Bool := fRn m r && decide (4 ≤ lk m v r)
def finP (Bt : Nat → Nat) : Nat → (Nat → Nat) → Bool
  | 0, _ => true
  | i + 1, c => finP Bt i c && decide (c (Bt (2 * i)) = Bt (2 * i + 1))
theorem finP_s {Bt : Nat → Nat} {i : Nat} {c : Nat → Nat} : finP Bt (i + 1) c = (finP Bt i c && decide (c (Bt (2 * i)) = Bt (2 * i + 1))) := rfl
theorem finP_iff {Bt : Nat → Nat} {c : Nat → Nat} : ∀ T, finP Bt T c = true ↔ ∀ i, i < T → c (Bt (2 * i)) = Bt (2 * i + 1)
  | 0 => ⟨fun _ i hi => absurd hi (Nat.not_lt_zero _), fun _ => rfl⟩
  | T + 1 => by
    rw [finP_s, Bool.and_eq_true, finP_iff T, decide_eq_true_eq]
    refine ⟨fun h i hi => ?_, fun h => ⟨fun i hi => h i (by omega), h T (Nat.lt_succ_self _)⟩⟩
    by_cases e : i = T
    · subst e; exact h.2
    · exact h.1 i (by omega)
theorem may_ok {w : St} {m : Nat → Int32} {n p o : Nat} (hn : n ≤ 6) (h1 : w 1 = m) (h21 : w 0 21 = nI (bs (fRn m) n)) (hp : p < n) (ho : o < n) : q12_mayVote w (nI p) (nI o) = some (okB m p o) := by
  unfold q12_mayVote okB lk
  rw [h21, isOf_isIn, isIn_bs hn ho]
  cases fRn m o with
  | false => rfl
  | true =>
    rw [if_pos rfl, Bool.true_and]
    by_cases e : p = o
    · subst e
      rw [if_pos rfl, if_pos rfl]
      rfl
    · rw [if_neg (nIe (by omega) (by omega) e), if_neg e, liking_ne (by omega) (by omega) e, h1]
      simp only [Option.bind_some]
      by_cases h4 : 4 ≤ m (63 + 7 * p + o)
      · rw [if_pos h4, decide_eq_true h4]; rfl
      · rw [if_neg h4, decide_eq_false h4]; rfl
theorem vdg_lt {V : Nat → Bool} {n p : Nat} (h0 : 0 < n) (hV : V p = true) : ∀ k v code, v ≤ p → p < v + k → vdg V n p k v code < n
  | 0, v, code, h1, h2 => absurd h2 (by omega)
  | k + 1, v, code, h1, h2 => by
    rw [vdg_s]
    by_cases hv : V v = true
    · rw [if_pos hv]
      by_cases e : v = p
      · rw [if_pos e]; exact Nat.mod_lt _ h0
      · rw [if_neg e]; exact vdg_lt h0 hV k (v + 1) _ (by omega) (by omega)
    · rw [if_neg hv]
      exact vdg_lt h0 hV k (v + 1) _ (by have : v ≠ p := (fun e => hv (by rw [e]; exact hV)); omega) (by omega)
theorem dv_nI {a d : Nat} (ha : a < 2 ^ 31) (h0 : 0 < d) (hd : d < 2 ^ 31) : dv (nI a) (nI d) = some (nI (a / d)) := by
  unfold dv
  rw [if_neg (nI_ne0 h0 hd), pk_div ha h0 hd]
theorem rmd_nI {a d : Nat} (ha : a < 2 ^ 31) (h0 : 0 < d) (hd : d < 2 ^ 31) : rmd (nI a) (nI d) = some (nI (a % d)) := by
  unfold rmd
  rw [if_neg (nI_ne0 h0 hd), irm_nI ha h0 hd]
theorem fits_ok {V : Nat → Bool} {w : St} {m : Nat → Int32} {Bt : Nat → Nat} {n T code : Nat} (hn : n ≤ 6) (h1 : w 1 = m) (h3 : m 3 = nI n) (h20 : w 0 20 = nI (bs V n)) (h21 : w 0 21 = nI (bs (fRn m) n)) (hT : T ≤ 20) (hb : ∀ k, k < 2 * T → w 5 k = nI (Bt k)) (hr : ∀ i, i < T → Bt (2 * i) < n ∧ Bt (2 * i + 1) ≤ 6) (hc : code < 100000) : Wo (q12_fitsBallot w (nI code) (nI (2 * T))) (fun r => r.1 = bG V (okB m) (finP Bt T) n n 0 code (fun _ => 0) ∧ (r.1 = true → ∀ p, p < n → V p = true → r.2 8 p = nI (vdg V n p n 0 code)) ∧ ∀ i, i ≠ 8 → i ≠ 15 → r.2 i = w i) := by
  unfold q12_fitsBallot
  dsimp only [lt]
  refine wo_bind (wo_mono (Q := fun y => (∀ q, q < 7 → y.2 15 q = 0) ∧ ∀ i, i ≠ 15 → y.2 i = w i) ?_ ?_)
  · refine lpW2 7 (fun t p z => p = nI t ∧ (∀ q, q < t → z 15 q = 0) ∧ ∀ i, i ≠ 15 → z i = w i) ?_ fuelN 0 _ _ (Nat.zero_le _) (fuel_ok (by omega)) ⟨rfl, fun q hq => absurd hq (Nat.not_lt_zero _), fun _ _ => rfl⟩
    rintro rec t p z ht ⟨rfl, z15, zf⟩ IH
    refine wo_ite (fun hlt => ?_) (fun hge => ?_)
    · have ht7 : t < 7 := (nI_ltI (b := 7) (by omega) (by omega)).mp hlt
      rw [sa_nI (σ := z) (i := 15) (n := 7) (j := nI t) (k := t) rfl ht7 (by decide), nI_1]
      simp only [Option.bind_some]
      refine IH _ _ ht7 ⟨rfl, fun q hq => ?_, fun i hi => by rw [up_pl hi]; exact zf i hi⟩
      by_cases e : q = t
      · subst e; rw [up_at]
      · rw [up_off e]; exact z15 q (by omega)
    · have : t = 7 := by
        have : ¬ t < 7 := fun q => hge (nI_lt (b := 7) q (by omega))
        omega
      subst this
      refine wo_some ?_
      try dsimp only
      exact ⟨z15, zf⟩
  · rintro ⟨y1, y⟩ ⟨y15, yf⟩
    dsimp only at y15 yf ⊢
    refine wo_bind (wo_mono (Q := fun z => (∀ i, i ≠ 8 → i ≠ 15 → z.2.2.2 i = w i) ∧ (z.2.1 = true → ∃ c : Nat → Nat, bG V (okB m) (finP Bt T) n n 0 code (fun _ => 0) = finP Bt T c ∧ (∀ q, q < 7 → z.2.2.2 15 q = nI (c q) ∧ c q ≤ n) ∧ ∀ q, q < n → V q = true → z.2.2.2 8 q = nI (vdg V n q n 0 code)) ∧ (z.2.1 = false → bG V (okB m) (finP Bt T) n n 0 code (fun _ => 0) = false)) ?_ ?_)
    · refine lpW4 n (fun t v fits p z => p = nI t ∧ (∀ i, i ≠ 8 → i ≠ 15 → z i = w i) ∧ (fits = true → ∃ cd, ∃ c : Nat → Nat, cd ≤ code ∧ v = nI cd ∧ bG V (okB m) (finP Bt T) n n 0 code (fun _ => 0) = bG V (okB m) (finP Bt T) n (n - t) t cd c ∧ (∀ q, q < 7 → z 15 q = nI (c q) ∧ c q ≤ t) ∧ (∀ q, q < t → V q = true → z 8 q = nI (vdg V n q n 0 code)) ∧ ∀ q, t ≤ q → vdg V n q n 0 code = vdg V n q (n - t) t cd) ∧ (fits = false → bG V (okB m) (finP Bt T) n n 0 code (fun _ => 0) = false)) ?_ fuelN 0 _ _ _ _ (Nat.zero_le _) (fuel_ok (by omega)) ⟨rfl, fun i h8 h15 => yf i h15, fun _ => ⟨code, fun _ => 0, Nat.le_refl _, rfl, by rw [Nat.sub_zero], fun q hq => ⟨y15 q hq, Nat.zero_le _⟩, fun q hq => absurd hq (Nat.not_lt_zero _), fun q _ => by rw [Nat.sub_zero]⟩, fun h => (by cases h)⟩
      rintro rec t v fits p z ht ⟨rfl, zf, zt, zn⟩ IH
      rw [ag3, zf 1 (by decide) (by decide), h1, h3]
      simp only [Option.bind_some]
      cases fits with
      | false =>
        rw [if_neg (fun h => (by cases h.2))]
        refine wo_some ?_
        try dsimp only
        exact ⟨zf, fun h => (by cases h), zn⟩
      | true =>
        obtain ⟨cd, c, hcd, rfl, hG, z15, z8, hv⟩ := zt rfl
        by_cases htn : t < n
        · rw [if_pos ⟨nI_lt htn (by omega), rfl⟩, zf 0 (by decide) (by decide), h20, isOf_isIn, isIn_bs hn htn]
          have en : n - t = (n - (t + 1)) + 1 := by omega
          rw [en, bG_s] at hG
          cases hV : V t with
          | false =>
            rw [if_pos (by decide), nI_1]
            rw [hV, if_neg (by decide)] at hG
            refine IH _ _ _ _ htn ⟨rfl, zf, fun _ => ⟨cd, c, hcd, rfl, hG, fun q hq => ⟨(z15 q hq).1, by have := (z15 q hq).2; omega⟩, fun q hq hVq => ?_, fun q hq => ?_⟩, zn⟩
            · by_cases e : q = t
              · subst e; rw [hV] at hVq; cases hVq
              · exact z8 q (by omega) hVq
            · rw [hv q (by omega), en, vdg_s, hV, if_neg (by decide)]
          | true =>
            rw [if_neg (by decide), nI_1]
            rw [hV, if_pos rfl] at hG
            have hn0 : 0 < n := by omega
            have hx : cd % n < n := Nat.mod_lt _ hn0
            rw [rmd_nI (by omega) hn0 (by omega)]
            simp only [Option.bind_some]
            rw [sa_nI (σ := z) (i := 8) (n := 7) (j := nI t) (k := t) rfl (by omega) (by decide)]
            simp only [Option.bind_some]
            rw [ag3, up_pl (show (1 : Nat) ≠ 8 by decide), zf 1 (by decide) (by decide), h1, h3]
            simp only [Option.bind_some]
            rw [dv_nI (by omega) hn0 (by omega), ag_nI (i := 8) (n := 7) (j := nI t) (k := t) rfl (by omega) (by decide), up_at]
            simp only [Option.bind_some]
            rw [may_ok (w := up z 8 t (nI (cd % n))) (m := m) hn (by rw [up_pl (by decide), zf 1 (by decide) (by decide)]; exact h1) (by rw [up_pl (by decide), zf 0 (by decide) (by decide)]; exact h21) htn hx]
            simp only [Option.bind_some]
            rw [ag_nI (i := 15) (n := 7) (j := nI (cd % n)) (k := cd % n) rfl (by omega) (by decide), up_pl (by decide), (z15 _ (by omega)).1]
            simp only [Option.bind_some]
            rw [sa_nI (i := 15) (n := 7) (j := nI (cd % n)) (k := cd % n) rfl (by omega) (by decide), nI_1]
            simp only [Option.bind_some]
            have zf' : ∀ i, i ≠ 8 → i ≠ 15 → up (up z 8 t (nI (cd % n))) 15 (cd % n) (nI (c (cd % n) + 1)) i = w i := fun i h8 h15 => by rw [up_pl h15, up_pl h8]; exact zf i h8 h15
            refine IH _ _ _ _ htn ⟨rfl, zf', fun ho => ⟨cd / n, inc c (cd % n), Nat.le_trans (Nat.div_le_self _ _) hcd, rfl, ?_, fun q hq => ?_, fun q hq hVq => ?_, fun q hq => ?_⟩, fun ho => ?_⟩
            · rw [hG, ho, Bool.true_and]
            · unfold inc
              by_cases e : q = cd % n
              · subst e
                rw [up_at, if_pos rfl]
                exact ⟨rfl, by have := (z15 _ hq).2; omega⟩
              · rw [up_off e, up_pl (by decide), if_neg e]
                exact ⟨(z15 q hq).1, by have := (z15 q hq).2; omega⟩
            · rw [up_pl (by decide)]
              by_cases e : q = t
              · subst e
                rw [up_at, hv q (Nat.le_refl _), en, vdg_s, hV, if_pos rfl, if_pos rfl]
              · rw [up_off e]; exact z8 q (by omega) hVq
            · rw [hv q (by omega), en, vdg_s, hV, if_pos rfl, if_neg (by omega)]
            · rw [hG, ho, Bool.false_and]
        · have e : t = n := by omega
          subst e
          rw [if_neg (fun h => htn ((nI_ltI (by omega) (by omega)).mp h.1))]
          refine wo_some ?_
          try dsimp only
          refine ⟨zf, fun _ => ⟨c, ?_, z15, z8⟩, fun h => (by cases h)⟩
          rw [hG, Nat.sub_self]
          rfl
    · rintro ⟨v, fits, p, z⟩ ⟨zf, zt, zn⟩
      dsimp only at zf zt zn ⊢
      have z5 : ∀ k, k < 2 * T → ag z 5 400 (nI k) = some (nI (Bt k)) := fun k hk => by rw [ag_nI (k := k) rfl (by omega) (by decide), zf 5 (by decide) (by decide), hb k hk]
      have key : Wo (loop2 (fun rec72_ (fits75_ : Bool) (k76_ : Int32) =>
  if (k76_ < nI (2 * T)) ∧ (fits75_ = true) then
  Option.bind (Option.bind (ag z 5 400 k76_) fun x89_ =>
  Option.bind (ag z 15 7 x89_) fun x91_ =>
  Option.bind (ag z 5 400 (k76_ + 1)) fun x93_ =>
  if x91_ = x93_ then (some true) else (some false)) fun x84_ =>
  rec72_ x84_ (k76_ + 2)
  else (some (fits75_, k76_))) fuelN fits (0 : Int32)) (fun y => y.1 = bG V (okB m) (finP Bt T) n n 0 code (fun _ => 0) ∧ (y.1 = true → fits = true)) := by
        cases fits with
        | false =>
          refine lpW2 0 (fun _ f _ => f = false) ?_ fuelN 0 _ _ (Nat.zero_le _) (fuel_ok (by omega)) rfl
          rintro rec t f k _ rfl _
          rw [if_neg (fun h => (by cases h.2))]
          refine wo_some ?_
          try dsimp only
          exact ⟨(zn rfl).symm, fun h => (by cases h)⟩
        | true =>
          obtain ⟨c, hG, z15, -⟩ := zt rfl
          refine lpW2 T (fun i f k => k = nI (2 * i) ∧ f = finP Bt i c) ?_ fuelN 0 _ _ (Nat.zero_le _) (fuel_ok (by omega)) ⟨rfl, rfl⟩
          rintro rec i f k hi ⟨rfl, rfl⟩ IH
          cases hf : finP Bt i c with
          | false =>
            rw [if_neg (fun h => (by cases h.2))]
            refine wo_some ?_
            try dsimp only
            refine ⟨?_, fun h => (by cases h)⟩
            rw [hG]
            cases hF : finP Bt T c with
            | false => rfl
            | true =>
              have := (finP_iff i).mpr (fun j hj => (finP_iff T).mp hF j (by omega))
              rw [hf] at this
              cases this
          | true =>
            by_cases hiT : i < T
            · obtain ⟨r1, r2⟩ := hr i hiT
              rw [if_pos ⟨nI_lt (by omega) (by omega), rfl⟩, z5 _ (by omega)]
              simp only [Option.bind_some]
              rw [ag_nI (σ := z) (i := 15) (n := 7) (k := Bt (2 * i)) rfl (by omega) (by decide), (z15 _ (by omega)).1, nI_1, z5 _ (by omega)]
              simp only [Option.bind_some]
              have e2 : nI (2 * i) + 2 = nI (2 * (i + 1)) := nI_add (2 * i) 2
              have ee := nI_eq (a := c (Bt (2 * i))) (b := Bt (2 * i + 1)) (by have := (z15 (Bt (2 * i)) (by omega)).2; omega) (by omega)
              rw [e2]
              by_cases hq : c (Bt (2 * i)) = Bt (2 * i + 1)
              · rw [if_pos (ee.mpr hq)]
                simp only [Option.bind_some]
                exact wo_mono (IH true _ hiT ⟨rfl, by simp [finP_s, hf, hq]⟩) (fun y hy => ⟨hy.1, fun _ => trivial⟩)
              · rw [if_neg (fun h => hq (ee.mp h))]
                simp only [Option.bind_some]
                exact wo_mono (IH false _ hiT ⟨rfl, by simp [finP_s, hf, hq]⟩) (fun y hy => ⟨hy.1, fun _ => trivial⟩)
            · have e : i = T := by omega
              subst e
              rw [if_neg (fun h => hiT (by have := (nI_ltI (by omega) (by omega)).mp h.1; omega))]
              refine wo_some ?_
              try dsimp only
              exact ⟨by rw [hG, hf], fun _ => rfl⟩
      obtain ⟨⟨f, k⟩, ef, k1, k2⟩ := key
      dsimp only at k1 k2
      rw [ef]
      refine wo_some ?_
      try dsimp only
      refine ⟨k1, fun h => ?_, zf⟩
      obtain ⟨c, -, -, q⟩ := zt (k2 h)
      exact q
theorem adds_ok {V : Nat → Bool} {w : St} {m : Nat → Int32} {n : Nat} {d : Nat → Nat} (hn : n ≤ 6) (h1 : w 1 = m) (h3 : m 3 = nI n) (h20 : w 0 20 = nI (bs V n)) (h8 : ∀ p, p < n → V p = true → w 8 p = nI (d p) ∧ d p < n) : Wo (q12_adds w) (fun u => u 0 32 = w 0 32 + 1 ∧ (∀ p o, p < n → o < n → V p = true → u 14 (7 * p + o) = w 14 (7 * p + o) + (if d p = o then 1 else 0)) ∧ (∀ k, k ≠ 32 → u 0 k = w 0 k) ∧ ∀ i, i ≠ 0 → i ≠ 14 → u i = w i) := by
  unfold q12_adds
  dsimp only [lt]
  refine wo_bind (wo_mono (Q := fun y => (∀ p o, p < n → o < n → V p = true → y.2 14 (7 * p + o) = w 14 (7 * p + o) + (if d p = o then 1 else 0)) ∧ ∀ i, i ≠ 14 → y.2 i = up w 0 32 (w 0 32 + 1) i) ?_ ?_)
  · refine lpW2 n (fun t p z => p = nI t ∧ (∀ p o, p < n → o < n → V p = true → z 14 (7 * p + o) = w 14 (7 * p + o) + (if p < t ∧ d p = o then 1 else 0)) ∧ ∀ i, i ≠ 14 → z i = up w 0 32 (w 0 32 + 1) i) ?_ fuelN 0 _ _ (Nat.zero_le _) (fuel_ok (by omega)) ⟨rfl, fun p o _ _ _ => by rw [if_neg (fun h => absurd h.1 (Nat.not_lt_zero _)), up_pl (by decide), Int32.add_zero], fun _ _ => rfl⟩
    rintro rec t p z ht ⟨rfl, z14, zf⟩ IH
    rw [ag3, zf 1 (by decide), up_pl (by decide), h1, h3]
    simp only [Option.bind_some]
    refine wo_ite (fun hlt => ?_) (fun hge => ?_)
    · have htn : t < n := (nI_ltI (by omega) (by omega)).mp hlt
      rw [zf 0 (by decide), up_off (by decide), h20, isOf_isIn, isIn_bs hn htn, nI_1]
      cases hV : V t with
      | false =>
        simp only [Bool.false_eq_true, if_false, Option.bind_some]
        refine IH _ _ htn ⟨rfl, fun p o hp ho hVp => ?_, zf⟩
        rw [z14 p o hp ho hVp]
        have hne : p ≠ t := fun e => by rw [e, hV] at hVp; cases hVp
        by_cases hq : p < t ∧ d p = o
        · rw [if_pos hq, if_pos ⟨by omega, hq.2⟩]
        · rw [if_neg hq, if_neg (fun h => hq ⟨by omega, h.2⟩)]
      | true =>
        obtain ⟨e8, hd⟩ := h8 t htn hV
        simp only [if_true]
        rw [ag_nI (σ := z) (i := 8) (n := 7) (j := nI t) (k := t) rfl (by omega) (by decide), zf 8 (by decide), up_pl (by decide), e8]
        simp only [Option.bind_some]
        rw [ag_nI (σ := z) (i := 14) (n := 49) (ix_7 t (d t)) (by omega) (by decide), z14 t (d t) htn hd hV, if_neg (fun h => absurd h.1 (Nat.lt_irrefl _)), Int32.add_zero]
        simp only [Option.bind_some]
        rw [sa_nI (σ := z) (i := 14) (n := 49) (ix_7 t (d t)) (by omega) (by decide)]
        simp only [Option.bind_some]
        refine IH _ _ htn ⟨rfl, fun p o hp ho hVp => ?_, fun i hi => by rw [up_pl hi]; exact zf i hi⟩
        by_cases hpo : p = t ∧ o = d t
        · obtain ⟨rfl, rfl⟩ := hpo
          rw [up_at, if_pos ⟨Nat.lt_succ_self _, rfl⟩]
        · rw [up_off (by omega), z14 p o hp ho hVp]
          by_cases hq : p < t ∧ d p = o
          · rw [if_pos hq, if_pos ⟨by omega, hq.2⟩]
          · rw [if_neg hq, if_neg]
            rintro ⟨h1, h2⟩
            by_cases e : p = t
            · subst e; exact hpo ⟨rfl, h2.symm⟩
            · exact hq ⟨by omega, h2⟩
    · have : t = n := by
        have : ¬ t < n := fun q => hge (nI_lt q (by omega))
        omega
      subst this
      refine wo_some ?_
      try dsimp only
      refine ⟨fun p o hp ho hVp => ?_, zf⟩
      rw [z14 p o hp ho hVp]
      by_cases hq : d p = o
      · rw [if_pos ⟨hp, hq⟩, if_pos hq]
      · rw [if_neg (fun h => hq h.2), if_neg hq]
  · rintro ⟨y1, y⟩ ⟨y14, yf⟩
    dsimp only at y14 yf ⊢
    refine wo_some ?_
    try dsimp only
    exact ⟨by rw [yf 0 (by decide), up_at], y14, fun k hk => by rw [yf 0 (by decide), up_off hk], fun i h0 h14 => by rw [yf i h14, up_pl h0]⟩
theorem pw_le {V : Nat → Bool} {n : Nat} (hn : n ≤ 6) (t : Nat) (ht : t ≤ n) : n ^ cn V t ≤ 46656 := by
  have h1 := cn_top (P := V) t
  by_cases h0 : n = 0
  · subst h0
    have : cn V t = 0 := by omega
    rw [this]
    decide
  · have h2 : n ^ cn V t ≤ n ^ 6 := Nat.pow_le_pow_right (by omega) (by omega)
    have h3 : n ^ 6 ≤ 6 ^ 6 := Nat.pow_le_pow_left hn 6
    have h4 : (6 : Nat) ^ 6 = 46656 := by decide
    omega
theorem counts_okB {V : Nat → Bool} {w : St} {m : Nat → Int32} {Bt : Nat → Nat} {n T : Nat} (hn : n ≤ 6) (h1 : w 1 = m) (h3 : m 3 = nI n) (h20 : w 0 20 = nI (bs V n)) (h21 : w 0 21 = nI (bs (fRn m) n)) (hT : T ≤ 20) (hb : ∀ k, k < 2 * T → w 5 k = nI (Bt k)) (hr : ∀ i, i < T → Bt (2 * i) < n ∧ Bt (2 * i + 1) ≤ 6) : Wo (q12_counts w (nI (2 * T))) (fun u => u 0 32 = nI (bW V (okB m) (finP Bt T) n n 0 (fun _ => 0)) ∧ (∀ p o, p < n → o < n → V p = true → u 14 (7 * p + o) = nI (bW V (okM (okB m) p o) (finP Bt T) n n 0 (fun _ => 0))) ∧ (∀ k, k ≠ 32 → u 0 k = w 0 k) ∧ ∀ i, i ≠ 0 → i ≠ 8 → i ≠ 14 → i ≠ 15 → u i = w i) := by
  unfold q12_counts
  dsimp only [lt]
  refine wo_bind (wo_mono (Q := fun y => (∀ q, q < 49 → y.2 14 q = 0) ∧ ∀ i, i ≠ 14 → y.2 i = up w 0 32 0 i) ?_ ?_)
  · refine lpW2 49 (fun t p z => p = nI t ∧ (∀ q, q < t → z 14 q = 0) ∧ ∀ i, i ≠ 14 → z i = up w 0 32 0 i) ?_ fuelN 0 _ _ (Nat.zero_le _) (fuel_ok (by omega)) ⟨rfl, fun q hq => absurd hq (Nat.not_lt_zero _), fun _ _ => rfl⟩
    rintro rec t p z ht ⟨rfl, z15, zf⟩ IH
    refine wo_ite (fun hlt => ?_) (fun hge => ?_)
    · have ht7 : t < 49 := (nI_ltI (b := 49) (by omega) (by omega)).mp hlt
      rw [sa_nI (σ := z) (i := 14) (n := 49) (j := nI t) (k := t) rfl ht7 (by decide), nI_1]
      simp only [Option.bind_some]
      refine IH _ _ ht7 ⟨rfl, fun q hq => ?_, fun i hi => by rw [up_pl hi]; exact zf i hi⟩
      by_cases e : q = t
      · subst e; rw [up_at]
      · rw [up_off e]; exact z15 q (by omega)
    · have : t = 49 := by
        have : ¬ t < 49 := fun q => hge (nI_lt (b := 49) q (by omega))
        omega
      subst this
      refine wo_some ?_
      try dsimp only
      exact ⟨z15, zf⟩
  · rintro ⟨y1, y⟩ ⟨y14, yf⟩
    dsimp only at y14 yf ⊢
    have yy1 : y 1 = m := by rw [yf 1 (by decide), up_pl (by decide)]; exact h1
    have key : Wo (loop2 (fun rec24_ (all27_ : Int32) (p28_ : Int32) =>
  Option.bind (ag y 1 752 3) fun x33_ =>
  if p28_ < x33_ then
  Option.bind (if q12_isOf (y 0 20) p28_ = true then (Option.bind (ag y 1 752 3) fun x43_ =>
  some (q12_greater 1 x43_)) else (some (1 : Int32))) fun x37_ =>
  rec24_ (all27_ * x37_) (p28_ + 1)
  else (some (all27_, p28_))) fuelN (1 : Int32) (0 : Int32)) (fun r => r.1 = nI (n ^ cn V n)) := by
      refine lpW2 n (fun t a p => p = nI t ∧ a = nI (n ^ cn V t)) ?_ fuelN 0 _ _ (Nat.zero_le _) (fuel_ok (by omega)) ⟨rfl, rfl⟩
      rintro rec t a p ht ⟨rfl, rfl⟩ IH
      rw [ag3, yy1, h3]
      simp only [Option.bind_some]
      refine wo_ite (fun hlt => ?_) (fun hge => ?_)
      · have htn : t < n := (nI_ltI (by omega) (by omega)).mp hlt
        rw [yf 0 (by decide), up_off (by decide), h20, isOf_isIn, isIn_bs hn htn, nI_1]
        cases hV : V t with
        | false =>
          simp only [Bool.false_eq_true, if_false, Option.bind_some]
          refine IH _ _ htn ⟨rfl, ?_⟩
          rw [cn_s, hV, if_neg (by decide), Int32.mul_one]
          rfl
        | true =>
          simp only [if_true, Option.bind_some]
          refine IH _ _ htn ⟨rfl, ?_⟩
          have eg : q12_greater 1 (nI n) = nI n := by
            rw [← imax_gr]
            unfold imax
            by_cases h1 : (1 : Int32) < nI n
            · rw [if_pos h1]
            · rw [if_neg h1]
              have : ¬ 1 < n := fun q => h1 (nI_lt (a := 1) q (by omega))
              have e : n = 1 := by omega
              rw [e]
              rfl
          rw [cn_s, hV, if_pos rfl, eg, pk_mul, Nat.pow_succ]
      · have : t = n := by
          have : ¬ t < n := fun q => hge (nI_lt q (by omega))
          omega
        subst this
        exact wo_some rfl
    obtain ⟨⟨a1, a2⟩, ea, ha⟩ := key
    dsimp only at ha
    subst ha
    rw [ea]
    simp only [Option.bind_some]
    have hN := pw_le (V := V) hn n (Nat.le_refl _)
    have hvc : vc V n 0 = cn V n := by
      have := vc_cn (V := V) n 0
      rw [Nat.zero_add] at this
      have c0 : cn V 0 = 0 := rfl
      omega
    refine wo_bind (wo_mono (Q := fun z => z.2 0 32 = nI (bW V (okB m) (finP Bt T) n n 0 (fun _ => 0)) ∧ (∀ p o, p < n → o < n → V p = true → z.2 14 (7 * p + o) = nI (bW V (okM (okB m) p o) (finP Bt T) n n 0 (fun _ => 0))) ∧ (∀ k, k ≠ 32 → z.2 0 k = w 0 k) ∧ ∀ i, i ≠ 0 → i ≠ 8 → i ≠ 14 → i ≠ 15 → z.2 i = w i) ?_ (fun z hz => wo_some hz))
    refine lpW2 (n ^ cn V n) (fun code p z => p = nI code ∧ z 0 32 = nI (sm (fun cd => if bG V (okB m) (finP Bt T) n n 0 cd (fun _ => 0) = true then 1 else 0) code) ∧ (∀ p o, p < n → o < n → V p = true → z 14 (7 * p + o) = nI (sm (fun cd => if bG V (okM (okB m) p o) (finP Bt T) n n 0 cd (fun _ => 0) = true then 1 else 0) code)) ∧ (∀ k, k ≠ 32 → z 0 k = w 0 k) ∧ ∀ i, i ≠ 0 → i ≠ 8 → i ≠ 14 → i ≠ 15 → z i = w i) ?_ fuelN 0 _ _ (Nat.zero_le _) (fuel_ok (by omega)) ⟨rfl, by rw [yf 0 (by decide), up_at]; rfl, fun p o hp ho _ => y14 _ (by omega), fun k hk => by rw [yf 0 (by decide), up_off hk], fun i h0 h8 h14 h15 => by rw [yf i h14, up_pl h0]⟩
    rintro rec code p z hcode ⟨rfl, z32, z14, z0, zf⟩ IH
    refine wo_ite (fun hlt => ?_) (fun hge => ?_)
    · have hlt' : code < n ^ cn V n := (nI_ltI (by omega) (by omega)).mp hlt
      obtain ⟨⟨f, x⟩, ex, x1, x2, x3⟩ := fits_ok (V := V) (w := z) (m := m) (Bt := Bt) (T := T) (code := code) hn (by rw [zf 1 (by decide) (by decide) (by decide) (by decide)]; exact h1) h3 (by rw [z0 20 (by decide)]; exact h20) (by rw [z0 21 (by decide)]; exact h21) hT (fun k hk => by rw [zf 5 (by decide) (by decide) (by decide) (by decide)]; exact hb k hk) hr (by omega)
      dsimp only at x1 x2 x3
      rw [ex, nI_1]
      simp only [Option.bind_some]
      have mk : ∀ p o, p < n → V p = true → bG V (okM (okB m) p o) (finP Bt T) n n 0 code (fun _ => 0) = (f && decide (vdg V n p n 0 code = o)) := fun p o hp hVp => by
        rw [x1]
        exact bG_mark hVp n 0 code _ (Nat.zero_le _) (by omega)
      cases f with
      | false =>
        simp only [Bool.false_eq_true, if_false, Option.bind_some]
        refine IH _ _ hlt' ⟨rfl, ?_, fun p o hp ho hVp => ?_, fun k hk => ?_, fun i a b c d => ?_⟩
        · rw [x3 0 (by decide) (by decide), z32, sm_s, ← x1, if_neg (by decide)]
          rfl
        · rw [x3 14 (by decide) (by decide), z14 p o hp ho hVp, sm_s, mk p o hp hVp, Bool.false_and, if_neg (by decide)]
          rfl
        · rw [x3 0 (by decide) (by decide)]; exact z0 k hk
        · rw [x3 i b d]; exact zf i a b c d
      | true =>
        simp only [if_true]
        obtain ⟨a, ea, a1, a2, a3, a4⟩ := adds_ok (V := V) (w := x) (m := m) (d := fun p => vdg V n p n 0 code) hn (by rw [x3 1 (by decide) (by decide), zf 1 (by decide) (by decide) (by decide) (by decide)]; exact h1) h3 (by rw [x3 0 (by decide) (by decide), z0 20 (by decide)]; exact h20) (fun p hp hVp => ⟨x2 rfl p hp hVp, vdg_lt (by omega) hVp n 0 code (Nat.zero_le _) (by omega)⟩)
        rw [ea]
        simp only [Option.bind_some]
        refine IH _ _ hlt' ⟨rfl, ?_, fun p o hp ho hVp => ?_, fun k hk => ?_, fun i h0 h8 h14 h15 => ?_⟩
        · rw [a1, x3 0 (by decide) (by decide), z32, sm_s, ← x1, if_pos rfl, nI_1]
        · rw [a2 p o hp ho hVp, x3 14 (by decide) (by decide), z14 p o hp ho hVp, sm_s, mk p o hp hVp, Bool.true_and]
          by_cases e : vdg V n p n 0 code = o
          · rw [if_pos e, decide_eq_true e, if_pos rfl, nI_1]
          · rw [if_neg e, decide_eq_false e, if_neg (by decide), Int32.add_zero]
            rfl
        · rw [a3 k hk, x3 0 (by decide) (by decide)]; exact z0 k hk
        · rw [a4 i h0 h14, x3 i h8 h15]; exact zf i h0 h8 h14 h15
    · have : code = n ^ cn V n := by
        have : ¬ code < n ^ cn V n := fun q => hge (nI_lt q (by omega))
        omega
      subst this
      refine wo_some ?_
      try dsimp only
      refine ⟨?_, fun p o hp ho hVp => ?_, z0, zf⟩
      · rw [z32, ← bG_W, hvc]
      · rw [z14 p o hp ho hVp, ← bG_W, hvc]

/-! LAYER 2: RANKS -/
def cn (P : Nat → Bool) (r : Nat) : Nat := sm (fun k => if P k = true then 1 else 0) r
theorem cn_s {P : Nat → Bool} {r : Nat} : cn P (r + 1) = cn P r + (if P r = true then 1 else 0) := rfl
theorem cn_le {P Q : Nat → Bool} (h : ∀ k, P k = true → Q k = true) : ∀ r, cn P r ≤ cn Q r
  | 0 => Nat.le_refl _
  | r + 1 => by
    have := cn_le h r
    rw [cn_s, cn_s]
    by_cases hp : P r = true
    · rw [if_pos hp, if_pos (h r hp)]; omega
    · rw [if_neg hp]; split <;> omega
theorem cn_lt {P Q : Nat → Bool} (h : ∀ k, P k = true → Q k = true) {x : Nat} (hq : Q x = true) (hp : ¬ P x = true) : ∀ r, x < r → cn P r < cn Q r
  | 0, hx => absurd hx (Nat.not_lt_zero _)
  | r + 1, hx => by
    rw [cn_s, cn_s]
    by_cases hxr : x = r
    · subst hxr
      have := cn_le h x
      rw [if_pos hq, if_neg hp]; omega
    · have := cn_lt h hq hp r (by omega)
      by_cases hp2 : P r = true
      · rw [if_pos hp2, if_pos (h r hp2)]; omega
      · rw [if_neg hp2]; split <;> omega
theorem cn_top {P : Nat → Bool} : ∀ r, cn P r ≤ r
  | 0 => Nat.le_refl _
  | r + 1 => by
    have := cn_top (P := P) r
    rw [cn_s]; split <;> omega
def ahB (f : Nat → Int32) (k x : Nat) : Bool := decide (f x < f k ∨ (f k = f x ∧ k < x))
theorem ah_irr {f : Nat → Int32} {x : Nat} : ¬ ahB f x x = true := fun h => by
  have := of_decide_eq_true h
  rcases this with h | h
  · exact Int32.lt_irrefl h
  · omega
theorem ah_tr {f : Nat → Int32} {x y z : Nat} (h1 : ahB f x y = true) (h2 : ahB f y z = true) : ahB f x z = true := by
  have h1 := of_decide_eq_true h1
  have h2 := of_decide_eq_true h2
  apply decide_eq_true
  rcases h1 with a | ⟨a, b⟩ <;> rcases h2 with c | ⟨c, d⟩
  · exact Or.inl (Int32.lt_trans c a)
  · rw [c] at a; exact Or.inl a
  · rw [a]; exact Or.inl c
  · exact Or.inr ⟨a.trans c, by omega⟩
theorem ah_tot {f : Nat → Int32} {x y : Nat} (h : x ≠ y) : ahB f x y = true ∨ ahB f y x = true := by
  by_cases h1 : f y < f x
  · exact Or.inl (decide_eq_true (Or.inl h1))
  · by_cases h2 : f x < f y
    · exact Or.inr (decide_eq_true (Or.inl h2))
    · have e : f x = f y := Int32.le_antisymm (Int32.not_lt.mp h1) (Int32.not_lt.mp h2)
      by_cases h3 : x < y
      · exact Or.inl (decide_eq_true (Or.inr ⟨e, h3⟩))
      · exact Or.inr (decide_eq_true (Or.inr ⟨e.symm, by omega⟩))
/-- the place of x among those below r -/
def ps (R : Nat → Bool) (f : Nat → Int32) (r x : Nat) : Nat := cn (fun k => R k && ahB f k x) r
theorem ps_s {R : Nat → Bool} {f : Nat → Int32} {r x : Nat} : ps R f (r + 1) x = ps R f r x + (if (R r && ahB f r x) = true then 1 else 0) := rfl
theorem ps_lt {R : Nat → Bool} {f : Nat → Int32} {r x y : Nat} (hx : x < r) (hR : R x = true) (h : ahB f x y = true) : ps R f r x < ps R f r y := by
  refine cn_lt (fun k hk => ?_) (x := x) ?_ ?_ r hx
  · rw [Bool.and_eq_true] at hk ⊢
    exact ⟨hk.1, ah_tr hk.2 h⟩
  · rw [Bool.and_eq_true]; exact ⟨hR, h⟩
  · rw [Bool.and_eq_true]; exact fun q => ah_irr q.2
theorem ps_le {R : Nat → Bool} {f : Nat → Int32} {r x y : Nat} (h : ahB f x y = true) : ps R f r x ≤ ps R f r y := by
  refine cn_le (fun k hk => ?_) r
  rw [Bool.and_eq_true] at hk ⊢
  exact ⟨hk.1, ah_tr hk.2 h⟩
theorem ps_ct {R : Nat → Bool} {f : Nat → Int32} {r x : Nat} (hx : x < r) (hR : R x = true) : ps R f r x < cn R r := by
  refine cn_lt (fun k hk => ?_) (x := x) hR ?_ r hx
  · rw [Bool.and_eq_true] at hk; exact hk.1
  · rw [Bool.and_eq_true]; exact fun q => ah_irr q.2
theorem ps_le_ct {R : Nat → Bool} {f : Nat → Int32} {r x : Nat} : ps R f r x ≤ cn R r := cn_le (fun k hk => by rw [Bool.and_eq_true] at hk; exact hk.1) r
theorem ps_ah {R : Nat → Bool} {f : Nat → Int32} {r x y : Nat} (hx : x < r) (hR : R x = true) (hxy : x ≠ y) : ahB f x y = true ↔ ps R f r x < ps R f r y := by
  refine ⟨ps_lt hx hR, fun h => ?_⟩
  rcases ah_tot (f := f) hxy with h1 | h1
  · exact h1
  · have := ps_le (R := R) (r := r) h1
    omega
theorem ps_inj {R : Nat → Bool} {f : Nat → Int32} {r x y : Nat} (hx : x < r) (hRx : R x = true) (hy : y < r) (hRy : R y = true) (h : ps R f r x = ps R f r y) : x = y := by
  by_cases hxy : x = y
  · exact hxy
  · rcases ah_tot (f := f) hxy with h1 | h1
    · have := ps_lt (f := f) hx hRx h1
      omega
    · have := ps_lt (f := f) hy hRy h1
      omega
theorem ps_sur {R : Nat → Bool} {f : Nat → Int32} : ∀ r i, i < cn R r → ∃ x, x < r ∧ R x = true ∧ ps R f r x = i
  | 0, i, h => absurd h (Nat.not_lt_zero _)
  | r + 1, i, h => by
    rw [cn_s] at h
    by_cases hR : R r = true
    · rw [if_pos hR] at h
      have hq := ps_le_ct (R := R) (f := f) (r := r) (x := r)
      have er : ps R f (r + 1) r = ps R f r r := by rw [ps_s, if_neg (fun q => by rw [Bool.and_eq_true] at q; exact ah_irr q.2)]; rfl
      by_cases h1 : i = ps R f r r
      · exact ⟨r, by omega, hR, by rw [er, h1]⟩
      · by_cases h2 : i < ps R f r r
        · obtain ⟨x, x1, x2, x3⟩ := ps_sur (R := R) (f := f) r i (by omega)
          refine ⟨x, by omega, x2, ?_⟩
          have ha := (ps_ah (f := f) (y := r) x1 x2 (by omega)).mpr (by omega)
          rw [ps_s, if_neg (fun q => by
            rw [Bool.and_eq_true] at q
            exact ah_irr (ah_tr ha q.2)), x3]
          rfl
        · obtain ⟨x, x1, x2, x3⟩ := ps_sur (R := R) (f := f) r (i - 1) (by omega)
          refine ⟨x, by omega, x2, ?_⟩
          have hna : ¬ ahB f x r = true := fun q => by
            have := ps_lt (f := f) x1 x2 q
            omega
          have ha := (ah_tot (f := f) (show x ≠ r by omega)).resolve_left hna
          rw [ps_s, if_pos (by rw [hR, ha]; rfl), x3]
          omega
    · rw [if_neg hR] at h
      obtain ⟨x, x1, x2, x3⟩ := ps_sur (R := R) (f := f) r i (by omega)
      refine ⟨x, by omega, x2, ?_⟩
      rw [ps_s, if_neg (fun q => by
        rw [Bool.and_eq_true] at q
        exact hR q.1), x3]
      rfl
/-- one more comes into the row -/
theorem ps_ins {R : Nat → Bool} {f : Nat → Int32} {r : Nat} {g g' : Nat → Int32} (hR : R r = true) (hg : ∀ x, x < r → R x = true → g (ps R f r x) = nI x) (h1 : ∀ i, i < ps R f r r → g' i = g i) (h2 : g' (ps R f r r) = nI r) (h3 : ∀ i, ps R f r r ≤ i → i < cn R r → g' (i + 1) = g i) : ∀ x, x < r + 1 → R x = true → g' (ps R f (r + 1) x) = nI x := by
  intro x hx hRx
  by_cases hxr : x = r
  · subst hxr
    rw [ps_s, if_neg (fun q => by rw [Bool.and_eq_true] at q; exact ah_irr q.2)]
    exact h2
  · have hxl : x < r := by omega
    have hc := ps_ct (f := f) hxl hRx
    by_cases ha : ahB f r x = true
    · have hna : ¬ ahB f x r = true := fun q => ah_irr (ah_tr ha q)
      have hge : ¬ ps R f r x < ps R f r r := fun q => hna ((ps_ah hxl hRx hxr).mpr q)
      rw [ps_s, if_pos (by rw [hR, ha]; rfl), h3 _ (by omega) hc]
      exact hg x hxl hRx
    · have hb := (ah_tot (f := f) hxr).resolve_right ha
      have hlt := ps_lt hxl hRx hb
      rw [ps_s, if_neg (fun q => by rw [Bool.and_eq_true] at q; exact ha q.2)]
      exact (h1 _ hlt).trans (hg x hxl hRx)
/-- the sorted row of one voter -/
def Rk (R : Nat → Bool) (f : Nat → Int32) (s : St) (v r : Nat) : Prop := ∀ x, x < r → R x = true → s 7 (v * 6 + ps R f r x) = nI x
theorem sort_ok {s : St} {R : Nat → Bool} {f : Nat → Int32} {n v : Nat} (hn : n ≤ 6) (hv : v < 6) (h6 : s 6 6 = nI n) (h7 : s 6 7 = nI (bs R n)) (h9 : ∀ r, r < n → R r = true → s 9 r = f r) : Wo (q5_sortRank s (nI v)) (fun s' => (∀ x, x < n → R x = true → s' 7 (v * 6 + ps R f n x) = nI x ∧ s' 8 (v * 6 + x) = nI (ps R f n x)) ∧ (∀ w k, k < 6 → w ≠ v → s' 7 (w * 6 + k) = s 7 (w * 6 + k) ∧ s' 8 (w * 6 + k) = s 8 (w * 6 + k)) ∧ ∀ i, i ≠ 7 → i ≠ 8 → s' i = s i) := by
  unfold q5_sortRank
  dsimp only [lt]
  have erow : ∀ k, nI v * 6 + nI k = nI (v * 6 + k) := fun k => ix_6 v k
  refine wo_bind ?_
  refine lpW3 n (fun r a q u => q = nI r ∧ a = nI (cn R r) ∧ Rk R f u v r ∧ (∀ w k, k < 6 → w ≠ v → u 7 (w * 6 + k) = s 7 (w * 6 + k)) ∧ ∀ i, i ≠ 7 → u i = s i) ?_ fuelN 0 0 0 s (Nat.zero_le _) (fuel_ok (by omega)) ⟨rfl, rfl, fun x hx => absurd hx (Nat.not_lt_zero _), fun _ _ _ _ => rfl, fun _ _ => rfl⟩
  rintro rec r a q u hr ⟨rfl, rfl, hk, ho, hi⟩ IH
  have u6 : u 6 6 = nI n := by rw [hi 6 (by decide)]; exact h6
  have u7 : u 6 7 = nI (bs R n) := by rw [hi 6 (by decide)]; exact h7
  have u9 : ∀ r, r < n → R r = true → u 9 r = f r := fun r h1 h2 => by rw [hi 9 (by decide)]; exact h9 r h1 h2
  have hct := cn_top (P := R) r
  rw [u6]
  refine wo_ite (fun hlt => ?_) (fun hge => ?_)
  · have hrn : r < n := (nI_ltI (by omega) (by omega)).mp hlt
    rw [u7, isIn_bs hn hrn]
    have hcs := cn_s (P := R) (r := r)
    by_cases hR : R r = true
    · rw [if_pos hR] at hcs ⊢
      have hq := ps_le_ct (R := R) (f := f) (r := r) (x := r)
      refine wo_bind ?_
      refine wo_bind ?_
      refine lpW2 (cn R r - ps R f r r) (fun t k w => k = nI (cn R r - t) ∧ (∀ i, i < cn R r - t → w 7 (v * 6 + i) = u 7 (v * 6 + i)) ∧ (∀ i, cn R r - t ≤ i → i < cn R r → w 7 (v * 6 + (i + 1)) = u 7 (v * 6 + i)) ∧ (∀ x k, k < 6 → x ≠ v → w 7 (x * 6 + k) = u 7 (x * 6 + k)) ∧ ∀ i, i ≠ 7 → w i = u i) ?_ fuelN 0 _ _ (Nat.zero_le _) (fuel_ok (by omega)) ⟨rfl, fun _ _ => rfl, fun i h1 h2 => by omega, fun _ _ _ _ => rfl, fun _ _ => rfl⟩
      rintro rec2 t k w ht ⟨rfl, w1, w2, w3, w4⟩ IH2
      have w9 : ∀ r, r < n → R r = true → w 9 r = f r := fun r h1 h2 => by rw [w4 9 (by decide)]; exact u9 r h1 h2
      have est : (if 0 < nI (cn R r - t) then (Option.bind (ag w 7 36 ((nI v * 6 + nI (cn R r - t)) - 1)) fun x40_ => Option.bind (ag w 9 6 x40_) fun x42_ => Option.bind (ag w 9 6 (nI r)) fun x44_ => if x42_ < x44_ then (some true) else (some false)) else (some false)) = some (decide (t < cn R r - ps R f r r)) := by
        by_cases h0 : cn R r - t = 0
        · rw [h0, if_neg (show ¬ (0 : Int32) < nI 0 from lt0), decide_eq_false (by omega)]
        · have e1 : nI v * 6 + nI (cn R r - t) - 1 = nI (v * 6 + (cn R r - t - 1)) := by
            rw [erow]
            have := nI_pred (v * 6 + (cn R r - t - 1))
            rw [show v * 6 + (cn R r - t - 1) + 1 = v * 6 + (cn R r - t) from by omega] at this
            exact this
          obtain ⟨x, x1, x2, x3⟩ := ps_sur (R := R) (f := f) r (cn R r - t - 1) (by omega)
          have ex : w 7 (v * 6 + (cn R r - t - 1)) = nI x := by
            rw [w1 _ (by omega), ← x3]
            exact hk x x1 x2
          rw [if_pos (show (0 : Int32) < nI (cn R r - t) from nI_lt (a := 0) (by omega) (by omega)), e1, ag_nI (k := v * 6 + (cn R r - t - 1)) rfl (by omega) (by decide), ex]
          simp only [Option.bind_some]
          rw [ag_nI (k := x) rfl (by omega) (by decide), ag_nI (k := r) rfl (by omega) (by decide), w9 x (by omega) x2, w9 r hrn hR]
          simp only [Option.bind_some]
          have hiff : f x < f r ↔ t < cn R r - ps R f r r := by
            have ha := ps_ah (R := R) (f := f) (y := r) x1 x2 (by omega)
            constructor
            · intro h
              have hr1 : ahB f r x = true := decide_eq_true (Or.inl h)
              have hn1 : ¬ ahB f x r = true := fun q => ah_irr (ah_tr hr1 q)
              have : ¬ ps R f r x < ps R f r r := fun q => hn1 (ha.mpr q)
              omega
            · intro h
              have hn1 : ¬ ahB f x r = true := fun q => by
                have := ha.mp q
                omega
              have hr1 := of_decide_eq_true ((ah_tot (f := f) (show x ≠ r by omega)).resolve_left hn1)
              rcases hr1 with h1 | h1
              · exact h1
              · omega
          by_cases hx : f x < f r
          · rw [if_pos hx, decide_eq_true (hiff.mp hx)]
          · rw [if_neg hx, decide_eq_false (fun q => hx (hiff.mpr q))]
      refine wo_st est ?_
      by_cases hlt2 : t < cn R r - ps R f r r
      · rw [decide_eq_true hlt2, if_pos rfl]
        have e1 : nI v * 6 + nI (cn R r - t) - 1 = nI (v * 6 + (cn R r - t - 1)) := by
          rw [erow]
          have := nI_pred (v * 6 + (cn R r - t - 1))
          rw [show v * 6 + (cn R r - t - 1) + 1 = v * 6 + (cn R r - t) from by omega] at this
          exact this
        have e2 : nI (cn R r - t) + -1 = nI (cn R r - (t + 1)) := by
          rw [← Int32.sub_eq_add_neg]
          have := nI_pred (cn R r - (t + 1))
          rw [show cn R r - (t + 1) + 1 = cn R r - t from by omega] at this
          exact this
        rw [e1, erow, e2]
        refine wo_st (ag_nI (k := v * 6 + (cn R r - t - 1)) rfl (by omega) (by decide)) ?_
        refine wo_st (sa_nI (k := v * 6 + (cn R r - t)) rfl (by omega) (by decide)) ?_
        refine IH2 _ _ hlt2 ⟨rfl, fun i h1 => ?_, fun i h1 h2 => ?_, fun x k hk6 hx => ?_, fun i h1 => by rw [up_pl h1]; exact w4 i h1⟩
        · rw [up_off (by omega)]; exact w1 i (by omega)
        · by_cases hi2 : i + 1 = cn R r - t
          · rw [hi2, up_at, show cn R r - t - 1 = i from by omega]
            exact w1 i (by omega)
          · rw [up_off (by omega)]; exact w2 i (by omega) h2
        · rw [up_off (by omega)]; exact w3 x k hk6 hx
      · have hte : t = cn R r - ps R f r r := by omega
        rw [decide_eq_false hlt2, if_neg (by decide)]
        have hqe : cn R r - t = ps R f r r := by omega
        refine wo_some ?_
        rw [hqe] at w1 w2 ⊢
        rw [erow]
        refine wo_st (sa_nI (k := v * 6 + ps R f r r) rfl (by omega) (by decide)) ?_
        refine wo_some ?_
        dsimp only
        rw [nI_1, nI_1]
        refine IH _ _ _ hrn ⟨rfl, by rw [hcs], ?_, fun x k hk6 hx => ?_, fun i h1 => by rw [up_pl h1, w4 i h1]; exact hi i h1⟩
        · refine ps_ins (g := fun i => u 7 (v * 6 + i)) (g' := fun i => up w 7 (v * 6 + ps R f r r) (nI r) 7 (v * 6 + i)) hR hk (fun i h1 => ?_) ?_ (fun i h1 h2 => ?_)
          · show up w 7 _ _ 7 _ = u 7 _
            rw [up_off (by omega)]; exact w1 i h1
          · exact up_at
          · show up w 7 _ _ 7 _ = u 7 _
            rw [up_off (by omega)]; exact w2 i h1 h2
        · rw [up_off (by omega), w3 x k hk6 hx]; exact ho x k hk6 hx
    · rw [if_neg hR] at hcs ⊢
      refine wo_bind (wo_some ?_)
      dsimp only
      rw [nI_1]
      refine IH _ _ _ hrn ⟨rfl, by rw [hcs]; rfl, fun x hx hRx => ?_, ho, hi⟩
      have hxr : x ≠ r := fun e => by rw [e] at hRx; exact hR hRx
      rw [ps_s, if_neg (fun q => by rw [Bool.and_eq_true] at q; exact hR q.1)]
      exact hk x (by omega) hRx
  · have : r = n := by
      have : ¬ r < n := fun q => hge (nI_lt q (by omega))
      omega
    subst this
    refine wo_some ?_
    dsimp only
    refine wo_bind ?_
    refine lpW2 (cn R r) (fun k q w => q = nI k ∧ (∀ x, x < r → R x = true → ps R f r x < k → w 8 (v * 6 + x) = nI (ps R f r x)) ∧ (∀ x k, k < 6 → x ≠ v → w 8 (x * 6 + k) = u 8 (x * 6 + k)) ∧ ∀ i, i ≠ 8 → w i = u i) ?_ fuelN 0 0 u (Nat.zero_le _) (fuel_ok (by omega)) ⟨rfl, fun _ _ _ h => absurd h (Nat.not_lt_zero _), fun _ _ _ _ => rfl, fun _ _ => rfl⟩
    rintro rec2 k q w hkk ⟨rfl, w1, w2, w3⟩ IH2
    refine wo_ite (fun hlt2 => ?_) (fun hge2 => ?_)
    · have hkc : k < cn R r := (nI_ltI (by omega) (by omega)).mp hlt2
      obtain ⟨x, x1, x2, x3⟩ := ps_sur (R := R) (f := f) r k hkc
      have ex : w 7 (v * 6 + k) = nI x := by
        rw [w3 7 (by decide), ← x3]
        exact hk x x1 x2
      rw [erow]
      refine wo_st (ag_nI (k := v * 6 + k) rfl (by omega) (by decide)) ?_
      rw [ex, erow]
      refine wo_st (sa_nI (k := v * 6 + x) rfl (by omega) (by decide)) ?_
      rw [nI_1]
      refine IH2 _ _ hkc ⟨rfl, fun y y1 y2 y3 => ?_, fun z j hj hz => ?_, fun i h1 => by rw [up_pl h1]; exact w3 i h1⟩
      · by_cases hyx : y = x
        · subst hyx; rw [up_at, x3]
        · have : ps R f r y ≠ k := fun e => hyx (ps_inj y1 y2 x1 x2 (e.trans x3.symm))
          rw [up_off (by omega)]; exact w1 y y1 y2 (by omega)
      · rw [up_off (by omega)]; exact w2 z j hj hz
    · have hke : k = cn R r := by
        have : ¬ k < cn R r := fun q => hge2 (nI_lt q (by omega))
        omega
      subst hke
      refine wo_some (wo_some ⟨fun x x1 x2 => ⟨?_, w1 x x1 x2 (ps_ct x1 x2)⟩, fun z j hj hz => ⟨?_, ?_⟩, fun i h7 h8 => ?_⟩)
      · dsimp only; rw [w3 7 (by decide)]; exact hk x x1 x2
      · dsimp only; rw [w3 7 (by decide)]; exact ho z j hj hz
      · dsimp only; rw [w2 z j hj hz, hi 8 (by decide)]
      · dsimp only; rw [w3 i h8]; exact hi i h7

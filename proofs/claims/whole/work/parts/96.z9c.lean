/-! LAYER 2: BALLOTS BY THE CLASS -/
def tdI (Bt : Nat → Nat) : Nat → Nat → Bool
  | 0, _ => false
  | i + 1, r => if Bt (2 * i) = r then true else tdI Bt i r
def xI (Bt : Nat → Nat) : Nat → Nat → Nat
  | 0, _ => 0
  | i + 1, r => if Bt (2 * i) = r then Bt (2 * i + 1) else xI Bt i r
def agI (Bt : Nat → Nat) : Nat → Bool
  | 0 => true
  | i + 1 => agI Bt i && (!tdI Bt i (Bt (2 * i)) || decide (xI Bt i (Bt (2 * i)) = Bt (2 * i + 1)))
theorem tdI_s {Bt : Nat → Nat} {i r : Nat} : tdI Bt (i + 1) r = if Bt (2 * i) = r then true else tdI Bt i r := rfl
theorem xI_s {Bt : Nat → Nat} {i r : Nat} : xI Bt (i + 1) r = if Bt (2 * i) = r then Bt (2 * i + 1) else xI Bt i r := rfl
theorem agI_s {Bt : Nat → Nat} {i : Nat} : agI Bt (i + 1) = (agI Bt i && (!tdI Bt i (Bt (2 * i)) || decide (xI Bt i (Bt (2 * i)) = Bt (2 * i + 1)))) := rfl
theorem xI_0 {Bt : Nat → Nat} {r : Nat} : ∀ i, tdI Bt i r = false → xI Bt i r = 0
  | 0, _ => rfl
  | i + 1, h => by
    rw [tdI_s] at h
    rw [xI_s]
    split at h
    · cases h
    · next q => rw [if_neg q]; exact xI_0 i h
theorem tdI_ex {Bt : Nat → Nat} {r : Nat} : ∀ i, tdI Bt i r = true → ∃ j, j < i ∧ Bt (2 * j) = r ∧ xI Bt i r = Bt (2 * j + 1)
  | 0, h => by cases h
  | i + 1, h => by
    rw [tdI_s] at h
    rw [xI_s]
    by_cases e : Bt (2 * i) = r
    · exact ⟨i, Nat.lt_succ_self _, e, if_pos e⟩
    · rw [if_neg e] at h ⊢
      obtain ⟨j, j1, j2, j3⟩ := tdI_ex i h
      exact ⟨j, by omega, j2, j3⟩
theorem agI_all {Bt : Nat → Nat} : ∀ i, agI Bt i = true → ∀ j, j < i → tdI Bt i (Bt (2 * j)) = true ∧ xI Bt i (Bt (2 * j)) = Bt (2 * j + 1)
  | 0, _, j, hj => absurd hj (Nat.not_lt_zero _)
  | i + 1, h, j, hj => by
    rw [agI_s, Bool.and_eq_true, Bool.or_eq_true, decide_eq_true_eq] at h
    rw [tdI_s, xI_s]
    by_cases e : j = i
    · subst e
      rw [if_pos rfl, if_pos rfl]
      exact ⟨rfl, rfl⟩
    · obtain ⟨q1, q2⟩ := agI_all i h.1 j (by omega)
      by_cases e2 : Bt (2 * i) = Bt (2 * j)
      · rw [if_pos e2, if_pos e2]
        refine ⟨rfl, ?_⟩
        rcases h.2 with h2 | h2
        · rw [e2, q1] at h2; cases h2
        · rw [← h2, e2, q2]
      · rw [if_neg e2, if_neg e2]
        exact ⟨q1, q2⟩
theorem fin_td {Bt : Nat → Nat} {T n : Nat} (h : agI Bt T = true) (hr : ∀ i, i < T → Bt (2 * i) < n) (c : Nat → Nat) : finP Bt T c = true ↔ finT (tdI Bt T) (xI Bt T) n c := by
  rw [finP_iff]
  refine ⟨fun q r _ ht => ?_, fun q i hi => ?_⟩
  · obtain ⟨j, j1, j2, j3⟩ := tdI_ex T ht
    rw [j3, ← j2]
    exact q j j1
  · obtain ⟨q1, q2⟩ := agI_all T h i hi
    rw [q _ (hr i hi) q1, q2]
theorem ag_no {Bt : Nat → Nat} {T : Nat} {c : Nat → Nat} (h : finP Bt T c = true) : ∀ i, i ≤ T → agI Bt i = true
  | 0, _ => rfl
  | i + 1, hi => by
    have hf := (finP_iff T).mp h
    rw [agI_s, ag_no h i (by omega), Bool.true_and]
    cases ht : tdI Bt i (Bt (2 * i)) with
    | false => rfl
    | true =>
      obtain ⟨j, j1, j2, j3⟩ := tdI_ex i ht
      have h1 := hf j (by omega)
      have h2 := hf i (by omega)
      rw [j2] at h1
      rw [decide_eq_true (show xI Bt i (Bt (2 * i)) = Bt (2 * i + 1) by rw [j3, ← h1, ← h2])]
      rfl
theorem bW_no {V : Nat → Bool} {ok : Nat → Nat → Bool} {fin : (Nat → Nat) → Bool} {n : Nat} (hf : ∀ c, fin c = false) : ∀ k v c, bW V ok fin n k v c = 0
  | 0, v, c => by
    show (if fin c = true then 1 else 0) = 0
    rw [hf c, if_neg (by decide)]
  | k + 1, v, c => by
    show (if V v = true then sm (fun r => if ok v r = true then bW V ok fin n k (v + 1) (inc c r) else 0) n else bW V ok fin n k (v + 1) c) = 0
    split
    · refine sm_0 (fun q _ => ?_)
      split
      · exact bW_no hf k _ _
      · rfl
    · exact bW_no hf k _ _
theorem sm_inc {c : Nat → Nat} {r : Nat} : ∀ n, sm (inc c r) n = sm c n + (if r < n then 1 else 0)
  | 0 => by rw [if_neg (Nat.not_lt_zero _)]; rfl
  | n + 1 => by
    rw [sm_s, sm_s, sm_inc n]
    unfold inc
    by_cases e : n = r
    · subst e
      rw [if_neg (Nat.lt_irrefl _), if_pos rfl, if_pos (Nat.lt_succ_self _)]
      omega
    · rw [if_neg e]
      by_cases h : r < n
      · rw [if_pos h, if_pos (by omega)]; omega
      · rw [if_neg h, if_neg (by omega)]; omega
theorem smLe {f g : Nat → Nat} : ∀ {n : Nat}, (∀ k, k < n → f k ≤ g k) → sm f n ≤ sm g n
  | 0, _ => Nat.le_refl _
  | n + 1, h => by
    have h1 := smLe (n := n) (fun k hk => h k (by omega))
    have h2 := h n (Nat.lt_succ_self _)
    rw [sm_s, sm_s]
    omega
theorem bW_few {V : Nat → Bool} {ok : Nat → Nat → Bool} {fin : (Nat → Nat) → Bool} {x : Nat → Nat} {n : Nat} (hf : ∀ c, fin c = true → sm x n ≤ sm c n) : ∀ k v c, sm c n + vc V k v < sm x n → bW V ok fin n k v c = 0
  | 0, v, c, h => by
    show (if fin c = true then 1 else 0) = 0
    rw [if_neg]
    intro q
    have := hf c q
    have e : vc V 0 v = 0 := rfl
    omega
  | k + 1, v, c, h => by
    have e : vc V (k + 1) v = (if V v = true then 1 else 0) + vc V k (v + 1) := rfl
    show (if V v = true then sm (fun r => if ok v r = true then bW V ok fin n k (v + 1) (inc c r) else 0) n else bW V ok fin n k (v + 1) c) = 0
    by_cases hV : V v = true
    · rw [if_pos hV] at e ⊢
      refine sm_0 (fun q hq => ?_)
      split
      · refine bW_few hf k _ _ ?_
        rw [sm_inc, if_pos hq]
        omega
      · rfl
    · rw [if_neg hV] at e ⊢
      exact bW_few hf k _ _ (by omega)
theorem stp_pow {x : Nat → Nat} : ∀ r, stp x r ≤ 2 ^ sm x r
  | 0 => Nat.le_refl _
  | r + 1 => by
    rw [stp_s, sm_s, Nat.pow_add]
    exact Nat.mul_le_mul (stp_pow r) (Nat.lt_two_pow_self)
theorem stp_mono {x : Nat → Nat} {r n : Nat} (h : r ≤ n) : stp x r ≤ stp x n := by
  obtain ⟨K, e⟩ := stp_up (x := x) r (n - r)
  rw [show r + (n - r) = n by omega] at e
  have h0 := stp_pos (x := x) n
  rw [e] at h0 ⊢
  have : 0 < K := Nat.pos_of_mul_pos_left h0
  exact Nat.le_mul_of_pos_right _ this
theorem imax1 {a : Nat} (h : 1 ≤ a) (h2 : a < 2 ^ 31) : imax 1 (nI a) = nI a := by
  unfold imax
  by_cases h1 : (1 : Int32) < nI a
  · rw [if_pos h1]
  · rw [if_neg h1]
    have : ¬ 1 < a := fun q => h1 (nI_lt (a := 1) q h2)
    have e : a = 1 := by omega
    rw [e]
    rfl
theorem imax0 {a : Nat} (h2 : a < 2 ^ 31) : imax 0 (nI a) = nI a := by
  unfold imax
  by_cases h1 : (0 : Int32) < nI a
  · rw [if_pos h1]
  · rw [if_neg h1]
    have : ¬ 0 < a := fun q => h1 (nI_lt (a := 0) q h2)
    have e : a = 0 := by omega
    rw [e]
    rfl
def tdV (td : Nat → Bool) (x : Nat → Nat) (r : Nat) : Int32 := if td r = true then nI (x r) else -1
theorem tdV_max {td : Nat → Bool} {x : Nat → Nat} {r : Nat} (hx : td r = false → x r = 0) (h6 : x r ≤ 6) : imax 0 (tdV td x r) = nI (x r) := by
  unfold tdV
  cases ht : td r with
  | true => rw [if_pos rfl]; exact imax0 (by omega)
  | false => rw [if_neg (by decide), hx ht]; decide
def CS (V : Nat → Bool) (ok : Nat → Nat → Bool) (td : Nat → Bool) (x : Nat → Nat) (n : Nat) (σ : St) : Prop := σ 21 5 = nI n ∧ σ 21 6 = nI (bs V n) ∧ σ 21 7 = nI (stp x n) ∧ (∀ r, r < n → σ 22 r = tdV td x r) ∧ (∀ r, r < n → σ 23 r = nI (stp x r)) ∧ ∀ v, v < n → σ 24 v = nI (bs (ok v) n)
theorem CS.mv {V : Nat → Bool} {ok : Nat → Nat → Bool} {td : Nat → Bool} {x : Nat → Nat} {n : Nat} {σ s : St} (h : CS V ok td x n σ) (e5 : s 21 5 = σ 21 5) (e6 : s 21 6 = σ 21 6) (e7 : s 21 7 = σ 21 7) (e22 : s 22 = σ 22) (e23 : s 23 = σ 23) (e24 : s 24 = σ 24) : CS V ok td x n s := by
  unfold CS
  rw [e5, e6, e7, e22, e23, e24]
  exact h
def eW (o : Option Nat) : Int32 := match o with
  | some t => nI t
  | none => -1
section
variable {V : Nat → Bool} {ok : Nat → Nat → Bool} {td : Nat → Bool} {x : Nat → Nat} {n : Nat} {σ : St}
theorem sw_ok (hn : n ≤ 6) (h64 : stp x n ≤ 64) (h6 : ∀ r, r < n → x r ≤ 6) (hC : CS V ok td x n σ) {s r : Nat} (hs : s < 64) (hr : r < n) : q7_stateWith σ (nI s) (nI r) = some (eW (sW td x s r)) := by
  obtain ⟨-, -, -, c22, c23, -⟩ := hC
  have hm := stp_mono (x := x) (r := r) (n := n) (by omega)
  have hp := stp_pos (x := x) r
  have h6r := h6 r hr
  unfold q7_stateWith sW
  rw [ag_nI (σ := σ) (i := 22) (n := 6) (j := nI r) (k := r) rfl (by omega) (by decide), c22 r hr, ag_nI (σ := σ) (i := 23) (n := 6) (j := nI r) (k := r) rfl (by omega) (by decide), c23 r hr]
  simp only [Option.bind_some]
  unfold tdV
  cases ht : td r with
  | false =>
    rw [if_neg (show ¬ false = true by decide), if_pos rfl, if_neg (by decide)]
    rfl
  | true =>
    rw [if_pos rfl, if_neg (nI_m1 (by omega)), if_pos rfl, imax1 (by omega) (by omega), dv_nI (by omega) hp (by omega)]
    simp only [Option.bind_some]
    rw [nI_1, imax1 (by omega) (by omega), rmd_nI (by have := Nat.div_le_self s (stp x r); omega) (by omega) (by omega)]
    simp only [Option.bind_some]
    have ed : s / stp x r % (x r + 1) = dg x s r := rfl
    have hdl := dg_le (x := x) (s := s) (r := r)
    rw [ed, nI_add]
    have e1 := nI_ltI (a := dg x s r) (b := x r) (by omega) (by omega)
    have e2 := nI_ltI (a := s + stp x r) (b := 64) (by omega) (by omega)
    by_cases h1 : dg x s r < x r
    · rw [if_pos (e1.mpr h1)]
      by_cases h2 : s + stp x r < 64
      · rw [if_pos (show nI (s + stp x r) < 64 from e2.mpr h2), if_pos ⟨h1, h2⟩]
        rfl
      · rw [if_neg (show ¬ nI (s + stp x r) < 64 from fun q => h2 (e2.mp q)), if_neg (fun q => h2 q.2)]
        rfl
    · rw [if_neg (fun q => h1 (e1.mp q)), if_neg (fun q => h1 q.1)]
      rfl
theorem eW_m1 {o : Option Nat} (h : ∀ t, o = some t → t < 64) : eW o = -1 ↔ o = none := by
  cases o with
  | none => exact ⟨fun _ => rfl, fun _ => rfl⟩
  | some t => exact ⟨fun e => absurd e (nI_m1 (by have := h t rfl; omega)), fun e => (by cases e)⟩
theorem choice_ok (hn : n ≤ 6) (h64 : stp x n ≤ 64) (h6 : ∀ r, r < n → x r ≤ 6) (hC : CS V ok td x n σ) {v s r : Nat} (hv : v < n) (hs : s < 64) (hr : r < n) : (Option.bind (ag σ 24 6 (nI v)) fun x32_ =>
  if q11_isIn x32_ (nI r) = true then (Option.bind (q7_stateWith σ (nI s) (nI r)) fun x35_ =>
  some x35_) else (some (-1 : Int32))) = some (eW (if ok v r = true then sW td x s r else none)) := by
  rw [ag_nI (σ := σ) (i := 24) (n := 6) (j := nI v) (k := v) rfl (by omega) (by decide), hC.2.2.2.2.2 v hv]
  simp only [Option.bind_some]
  rw [isIn_bs hn hr]
  by_cases ho : ok v r = true
  · rw [if_pos ho, if_pos ho, sw_ok hn h64 h6 hC hs hr]
    rfl
  · rw [if_neg ho, if_neg ho]
    rfl
theorem ch_lt (h64 : stp x n ≤ 64) {v s r : Nat} (hs : s < stp x n) (hr : r < n) : ∀ t, (if ok v r = true then sW td x s r else none) = some t → t < stp x n := fun t h => by
  split at h
  · exact sW_lt hr hs h
  · cases h
theorem ix64 (v s : Nat) : nI v * 64 + nI s = nI (v * 64 + s) := by
  show nI v * nI 64 + nI s = _
  rw [pk_mul, nI_add]
theorem ix65 (v s : Nat) : (nI v + 1) * 64 + nI s = nI ((v + 1) * 64 + s) := by
  rw [nI_1]
  exact ix64 (v + 1) s
theorem ways_ok (hn : n ≤ 6) (h64 : stp x n ≤ 64) (h6 : ∀ r, r < n → x r ≤ 6) (hC : CS V ok td x n σ) {A : Nat → Nat} {v s r : Nat} (hv : v < n) (hs : s < stp x n) (hr : r < n) (hA : ∀ t, t < stp x n → σ 26 ((v + 1) * 64 + t) = nI (A t)) : q7_waysWith σ (nI v) (nI r) (nI s) = some (nI (if ok v r = true then oA A (sW td x s r) else 0)) := by
  unfold q7_waysWith
  rw [choice_ok hn h64 h6 hC hv (by omega) hr]
  simp only [Option.bind_some]
  have hl := ch_lt (ok := ok) (td := td) (v := v) h64 hs hr
  have em := eW_m1 (o := if ok v r = true then sW td x s r else none) (fun t ht => Nat.lt_of_lt_of_le (hl t ht) h64)
  by_cases ho : ok v r = true
  · rw [if_pos ho] at em hl ⊢
    rw [if_pos ho]
    cases he : sW td x s r with
    | none =>
      rw [he] at em
      rw [if_pos (em.mpr rfl)]
      rfl
    | some t =>
      rw [he] at em
      have ht := hl t he
      rw [if_neg (fun q => by cases em.mp q)]
      show Option.bind (Option.bind (ag σ 26 448 ((nI v + 1) * 64 + nI t)) fun x18_ => some x18_) _ = _
      rw [ag_nI (ix65 v t) (by omega) (by decide), hA t ht]
      rfl
  · rw [if_neg ho] at em ⊢
    rw [if_neg ho, if_pos (em.mpr rfl)]
    rfl
theorem gather_ok (hn : n ≤ 6) (h64 : stp x n ≤ 64) (h6 : ∀ r, r < n → x r ≤ 6) (hC : CS V ok td x n σ) {A : Nat → Nat} {v s : Nat} (hv : v < n) (hs : s < stp x n) (hA : ∀ t, t < stp x n → σ 26 ((v + 1) * 64 + t) = nI (A t)) : q7_gather σ (nI v) (nI s) = some (nI (if V v = true then sm (fun r => if ok v r = true then oA A (sW td x s r) else 0) n else A s)) := by
  unfold q7_gather
  dsimp only [lt]
  rw [hC.2.1, isIn_bs hn hv]
  cases hV : V v with
  | false =>
    rw [if_pos (by decide), if_neg (by decide), ag_nI (ix65 v s) (by omega) (by decide), hA s hs]
    rfl
  | true =>
    rw [if_neg (by decide), if_pos rfl]
    have key : Wo (loop2 (fun rec10_ (sum13_ : Int32) (r14_ : Int32) =>
  if r14_ < (σ 21 5) then
  Option.bind (q7_waysWith σ (nI v) r14_ (nI s)) fun x21_ =>
  rec10_ (sum13_ + x21_) (r14_ + 1)
  else (some (sum13_, r14_))) fuelN (0 : Int32) (0 : Int32)) (fun y => y.1 = nI (sm (fun r => if ok v r = true then oA A (sW td x s r) else 0) n)) := by
      refine lpW2 n (fun t a p => p = nI t ∧ a = nI (sm (fun r => if ok v r = true then oA A (sW td x s r) else 0) t)) ?_ fuelN 0 _ _ (Nat.zero_le _) (fuel_ok (by omega)) ⟨rfl, rfl⟩
      rintro rec t a p ht ⟨rfl, rfl⟩ IH
      rw [hC.1]
      refine wo_ite (fun hlt => ?_) (fun hge => ?_)
      · have htn : t < n := (nI_ltI (by omega) (by omega)).mp hlt
        rw [ways_ok hn h64 h6 hC hv hs htn hA]
        simp only [Option.bind_some]
        rw [nI_1, nI_add]
        exact IH _ _ htn ⟨rfl, rfl⟩
      · have : t = n := by
          have : ¬ t < n := fun q => hge (nI_lt q (by omega))
          omega
        subst this
        exact wo_some rfl
    obtain ⟨y, ey, hy⟩ := key
    rw [ey]
    simp only [Option.bind_some]
    rw [hy]
theorem eI_nn : ∀ i, i < 8 → (0 ≤ eI i ↔ 0 < i) := by decide +kernel
theorem eI_p (j : Nat) : nI j + -1 = eI j := by
  unfold eI
  rw [Int32.sub_eq_add_neg]
theorem afterT_ok (hn : n ≤ 6) (h64 : stp x n ≤ 64) (h6 : ∀ r, r < n → x r ≤ 6) (hC : CS V ok td x n σ) : Wo (q7_countAfter σ) (fun a => (∀ v s, v ≤ n → s < stp x n → a 26 (v * 64 + s) = nI (aW V ok td x n (n - v) v s)) ∧ ∀ i, i ≠ 26 → a i = σ i) := by
  have hp := stp_pos (x := x) n
  unfold q7_countAfter
  dsimp only [lt]
  have f21 : fil σ 26 448 0 21 = σ 21 := fil_pl (by decide)
  rw [f21, hC.2.2.1, hC.1]
  rw [if_neg (show ¬ (nI (stp x n) < 1 ∨ 64 < nI (stp x n)) from fun q => q.elim (fun h => by have := (nI_ltI (b := 1) (by omega) (by omega)).mp h; omega) (fun h => by have := (nI_ltI (a := 64) (by omega) (by omega)).mp h; omega))]
  have e1 : nI n * 64 + nI (stp x n) - 1 = nI (n * 64 + stp x n - 1) := by
    rw [ix64]
    exact pk_sub (b := 1) (by omega)
  rw [e1, sa_nI (i := 26) (n := 448) (k := n * 64 + stp x n - 1) rfl (by omega) (by decide)]
  simp only [Option.bind_some]
  rw [up_pl (show (21 : Nat) ≠ 26 by decide), f21, hC.1]
  refine wo_bind (wo_mono (Q := fun y => (∀ v s, v ≤ n → s < stp x n → y.2 26 (v * 64 + s) = nI (aW V ok td x n (n - v) v s)) ∧ ∀ i, i ≠ 26 → y.2 i = σ i) ?_ (fun y hy => wo_some hy))
  refine lpW2 n (fun t p w => p = eI (n - t) ∧ (∀ v s, n - t ≤ v → v ≤ n → s < stp x n → w 26 (v * 64 + s) = nI (aW V ok td x n (n - v) v s)) ∧ ∀ i, i ≠ 26 → w i = σ i) ?_ fuelN 0 _ _ (Nat.zero_le _) (fuel_ok (by omega)) ⟨rfl, fun v s h1 h2 hs => ?_, fun i hi => by rw [up_pl hi, fil_pl hi]⟩
  · rintro rec t p w ht ⟨rfl, w26, wf⟩ IH
    by_cases htn : t < n
    · obtain ⟨v, hv⟩ : ∃ v, n - t = v + 1 := ⟨n - t - 1, by omega⟩
      rw [if_pos ((eI_nn _ (by omega)).mpr (by omega)), hv, eI_1]
      have hCw : CS V ok td x n w := hC.mv (by rw [wf 21 (by decide)]) (by rw [wf 21 (by decide)]) (by rw [wf 21 (by decide)]) (wf 22 (by decide)) (wf 23 (by decide)) (wf 24 (by decide))
      refine wo_bind (wo_mono (Q := fun y => (∀ s, s < stp x n → y.2 26 (v * 64 + s) = nI (aW V ok td x n (n - v) v s)) ∧ (∀ j, (v + 1) * 64 ≤ j → y.2 26 j = w 26 j) ∧ ∀ i, i ≠ 26 → y.2 i = w i) ?_ ?_)
      · refine lpW2 (stp x n) (fun s q z => q = nI s ∧ (∀ s', s' < s → z 26 (v * 64 + s') = nI (aW V ok td x n (n - v) v s')) ∧ (∀ j, (v + 1) * 64 ≤ j → z 26 j = w 26 j) ∧ ∀ i, i ≠ 26 → z i = w i) ?_ fuelN 0 _ _ (Nat.zero_le _) (fuel_ok (by omega)) ⟨rfl, fun s' h => absurd h (Nat.not_lt_zero _), fun _ _ => rfl, fun _ _ => rfl⟩
        rintro rec2 s q z hs ⟨rfl, z26, zl, zf⟩ IH2
        have hCz : CS V ok td x n z := hCw.mv (by rw [zf 21 (by decide)]) (by rw [zf 21 (by decide)]) (by rw [zf 21 (by decide)]) (zf 22 (by decide)) (zf 23 (by decide)) (zf 24 (by decide))
        rw [hCz.2.2.1]
        refine wo_ite (fun hlt => ?_) (fun hge => ?_)
        · have hsn : s < stp x n := (nI_ltI (by omega) (by omega)).mp hlt
          rw [gather_ok (A := aW V ok td x n (n - (v + 1)) (v + 1)) hn h64 h6 hCz (show v < n by omega) hsn (fun t' ht' => by rw [zl _ (by omega)]; exact w26 (v + 1) t' (by omega) (by omega) ht')]
          simp only [Option.bind_some]
          rw [sa_nI (ix64 v s) (by omega) (by decide), nI_1]
          simp only [Option.bind_some]
          refine IH2 _ _ hsn ⟨rfl, fun s' hs' => ?_, fun j hj => by rw [up_off (by omega)]; exact zl j hj, fun i hi => by rw [up_pl hi]; exact zf i hi⟩
          by_cases e : s' = s
          · subst e
            rw [up_at, show n - v = (n - (v + 1)) + 1 by omega, aW_s]
          · rw [up_off (by omega)]; exact z26 s' (by omega)
        · have : s = stp x n := by
            have : ¬ s < stp x n := fun q => hge (nI_lt q (by omega))
            omega
          subst this
          refine wo_some ?_
          try dsimp only
          exact ⟨z26, zl, zf⟩
      · rintro ⟨y1, y⟩ ⟨y26, yl, yf⟩
        dsimp only at y26 yl yf ⊢
        rw [eI_p]
        refine IH _ _ htn ⟨by rw [show n - (t + 1) = v by omega], fun v' s h1 h2 hs => ?_, fun i hi => by rw [yf i hi]; exact wf i hi⟩
        by_cases e : v' = v
        · subst e; exact y26 s hs
        · rw [yl _ (by omega)]; exact w26 v' s (by omega) h2 hs
    · have e : t = n := by omega
      subst e
      rw [Nat.sub_self, if_neg (show ¬ (0 : Int32) ≤ eI 0 by decide)]
      refine wo_some ?_
      try dsimp only
      exact ⟨fun v s h2 hs => w26 v s (by omega) h2 hs, wf⟩
  · have e : v = n := by omega
    subst e
    rw [Nat.sub_self]
    show _ = nI (if s + 1 = stp x v then 1 else 0)
    by_cases h : s + 1 = stp x v
    · rw [if_pos h, show v * 64 + s = v * 64 + stp x v - 1 by omega, up_at]
      rfl
    · rw [if_neg h, up_off (by omega), fil_in (by omega)]
      rfl
end

/-! LAYER 2: BALLOTS BY THE CLASS, FORWARD -/
section
variable {V : Nat → Bool} {ok : Nat → Nat → Bool} {td : Nat → Bool} {x : Nat → Nat} {n : Nat} {σ : St}
theorem spread_ok (hn : n ≤ 6) (h64 : stp x n ≤ 64) (h6 : ∀ r, r < n → x r ≤ 6) (hC : CS V ok td x n σ) {v s F : Nat} (hv : v < n) (hs : s < stp x n) (h25 : σ 25 (v * 64 + s) = nI F) : Wo (q7_spread σ (nI v) (nI s)) (fun a => (∀ t, t < stp x n → a 25 ((v + 1) * 64 + t) = σ 25 ((v + 1) * 64 + t) + nI (if V v = true then sm (fun r => if ok v r = true ∧ sW td x s r = some t then F else 0) n else if t = s then F else 0)) ∧ (∀ j, j < (v + 1) * 64 ∨ (v + 2) * 64 ≤ j → a 25 j = σ 25 j) ∧ ∀ i, i ≠ 25 → a i = σ i) := by
  unfold q7_spread
  dsimp only [lt]
  rw [ag_nI (σ := σ) (i := 25) (n := 448) (ix64 v s) (by omega) (by decide), h25]
  simp only [Option.bind_some]
  rw [hC.2.1, isIn_bs hn hv]
  cases hV : V v with
  | false =>
    rw [if_pos (by decide), ag_nI (σ := σ) (i := 25) (n := 448) (ix65 v s) (by omega) (by decide)]
    simp only [Option.bind_some]
    rw [sa_nI (σ := σ) (i := 25) (n := 448) (ix65 v s) (by omega) (by decide)]
    refine wo_some ?_
    try dsimp only
    refine ⟨fun t ht => ?_, fun j hj => up_off (by omega), fun i hi => up_pl hi⟩
    rw [if_neg (by decide)]
    by_cases e : t = s
    · subst e; rw [up_at, if_pos rfl]
    · rw [up_off (by omega), if_neg e]
      exact (Int32.add_zero _).symm
  | true =>
    rw [if_neg (by decide)]
    refine wo_bind (wo_mono (Q := fun y => (∀ t, t < stp x n → y.2 25 ((v + 1) * 64 + t) = σ 25 ((v + 1) * 64 + t) + nI (sm (fun r => if ok v r = true ∧ sW td x s r = some t then F else 0) n)) ∧ (∀ j, j < (v + 1) * 64 ∨ (v + 2) * 64 ≤ j → y.2 25 j = σ 25 j) ∧ ∀ i, i ≠ 25 → y.2 i = σ i) ?_ (fun y hy => wo_some ⟨fun t ht => by rw [if_pos rfl]; exact hy.1 t ht, hy.2⟩))
    refine lpW2 n (fun r p w => p = nI r ∧ (∀ t, t < stp x n → w 25 ((v + 1) * 64 + t) = σ 25 ((v + 1) * 64 + t) + nI (sm (fun r => if ok v r = true ∧ sW td x s r = some t then F else 0) r)) ∧ (∀ j, j < (v + 1) * 64 ∨ (v + 2) * 64 ≤ j → w 25 j = σ 25 j) ∧ ∀ i, i ≠ 25 → w i = σ i) ?_ fuelN 0 _ _ (Nat.zero_le _) (fuel_ok (by omega)) ⟨rfl, fun t _ => (Int32.add_zero _).symm, fun _ _ => rfl, fun _ _ => rfl⟩
    rintro rec r p w hr ⟨rfl, w25, wl, wf⟩ IH
    have hCw : CS V ok td x n w := hC.mv (by rw [wf 21 (by decide)]) (by rw [wf 21 (by decide)]) (by rw [wf 21 (by decide)]) (wf 22 (by decide)) (wf 23 (by decide)) (wf 24 (by decide))
    rw [hCw.1]
    refine wo_ite (fun hlt => ?_) (fun hge => ?_)
    · have hrn : r < n := (nI_ltI (by omega) (by omega)).mp hlt
      rw [choice_ok hn h64 h6 hCw hv (by omega) hrn, nI_1 r]
      simp only [Option.bind_some]
      have hl := ch_lt (ok := ok) (td := td) (v := v) h64 hs hrn
      have em := eW_m1 (o := if ok v r = true then sW td x s r else none) (fun t ht => Nat.lt_of_lt_of_le (hl t ht) h64)
      cases he : (if ok v r = true then sW td x s r else none) with
      | none =>
        rw [if_neg (not_not_intro (show eW none = -1 from rfl))]
        simp only [Option.bind_some]
        refine IH _ _ hrn ⟨rfl, fun t ht => ?_, wl, wf⟩
        have hne : ¬ (ok v r = true ∧ sW td x s r = some t) := fun q => by
          rw [if_pos q.1, q.2] at he
          cases he
        rw [w25 t ht, sm_s, if_neg hne]
        rfl
      | some t0 =>
        have ht0 := hl t0 he
        have hok : ok v r = true := Classical.byContradiction (fun q => by rw [if_neg q] at he; cases he)
        rw [if_pos hok] at he
        rw [if_pos (show ¬ eW (some t0) = -1 from nI_m1 (by omega))]
        show Wo (Option.bind (Option.bind (ag w 25 448 ((nI v + 1) * 64 + nI t0)) fun x45_ => Option.bind (sa w 25 448 ((nI v + 1) * 64 + nI t0) (x45_ + nI F)) fun σ47_ => some (σ47_)) fun y38_ => rec (nI (r + 1)) y38_) _
        rw [ag_nI (σ := w) (i := 25) (n := 448) (ix65 v t0) (by omega) (by decide)]
        simp only [Option.bind_some]
        rw [sa_nI (σ := w) (i := 25) (n := 448) (ix65 v t0) (by omega) (by decide)]
        simp only [Option.bind_some]
        refine IH _ _ hrn ⟨rfl, fun t ht => ?_, fun j hj => by rw [up_off (by omega)]; exact wl j hj, fun i hi => by rw [up_pl hi]; exact wf i hi⟩
        by_cases e : t = t0
        · subst e
          rw [up_at, w25 t ht, sm_s, if_pos ⟨hok, he⟩, ← nI_add, Int32.add_assoc]
        · have hne : ¬ (ok v r = true ∧ sW td x s r = some t) := fun q => e (by rw [he] at q; exact (Option.some.inj q.2).symm)
          rw [up_off (by omega), w25 t ht, sm_s, if_neg hne]
          rfl
    · have : r = n := by
        have : ¬ r < n := fun q => hge (nI_lt q (by omega))
        omega
      subst this
      refine wo_some ?_
      try dsimp only
      exact ⟨w25, wl, wf⟩
theorem row_ok (hn : n ≤ 6) (h64 : stp x n ≤ 64) (h6 : ∀ r, r < n → x r ≤ 6) {w : St} (hCw : CS V ok td x n w) {v : Nat} (hvn : v < n) (w25 : ∀ t, t < stp x n → w 25 (v * 64 + t) = nI (bF V ok td x n v t)) (wz : ∀ t, t < stp x n → w 25 ((v + 1) * 64 + t) = 0) : Wo (loop2 (fun rec22_ (s25_ : Int32) (σ26_ : St) =>
  if (s25_ < (σ26_ 21 7)) ∧ (s25_ < 64) then
  Option.bind (q7_spread σ26_ (nI v) s25_) fun x34_ =>
  rec22_ (s25_ + 1) x34_
  else (some (s25_, σ26_))) fuelN (0 : Int32) w) (fun y => (∀ t, t < stp x n → y.2 25 ((v + 1) * 64 + t) = nI (bF V ok td x n (v + 1) t)) ∧ (∀ j, j < (v + 1) * 64 ∨ (v + 2) * 64 ≤ j → y.2 25 j = w 25 j) ∧ ∀ i, i ≠ 25 → y.2 i = w i) := by
  refine lpW2 (stp x n) (fun s q z => q = nI s ∧ (∀ t, t < stp x n → z 25 ((v + 1) * 64 + t) = nI (if V v = true then sm (fun s' => sm (fun r => if ok v r = true ∧ sW td x s' r = some t then bF V ok td x n v s' else 0) n) s else if t < s then bF V ok td x n v t else 0)) ∧ (∀ j, j < (v + 1) * 64 ∨ (v + 2) * 64 ≤ j → z 25 j = w 25 j) ∧ ∀ i, i ≠ 25 → z i = w i) ?_ fuelN 0 _ _ (Nat.zero_le _) (fuel_ok (by omega)) ⟨rfl, fun t ht => ?_, fun _ _ => rfl, fun _ _ => rfl⟩
  · rintro rec2 s q z hs ⟨rfl, z25, zl, zf⟩ IH2
    have hCz : CS V ok td x n z := hCw.mv (by rw [zf 21 (by decide)]) (by rw [zf 21 (by decide)]) (by rw [zf 21 (by decide)]) (zf 22 (by decide)) (zf 23 (by decide)) (zf 24 (by decide))
    rw [hCz.2.2.1]
    by_cases hsn : s < stp x n
    · rw [if_pos ⟨nI_lt hsn (by omega), nI_lt (b := 64) (by omega) (by omega)⟩]
      obtain ⟨a, ea, a1, a2, a3⟩ := spread_ok hn h64 h6 hCz (v := v) (s := s) (F := bF V ok td x n v s) hvn hsn (by rw [zl _ (by omega)]; exact w25 s hsn)
      rw [ea, nI_1]
      simp only [Option.bind_some]
      refine IH2 _ _ hsn ⟨rfl, fun t ht => ?_, fun j hj => by rw [a2 j hj]; exact zl j hj, fun i hi => by rw [a3 i hi]; exact zf i hi⟩
      rw [a1 t ht, z25 t ht, nI_add]
      congr 1
      by_cases hV : V v = true
      · rw [if_pos hV, if_pos hV, if_pos hV, sm_s]
      · rw [if_neg hV, if_neg hV, if_neg hV]
        by_cases e : t = s
        · subst e
          rw [if_neg (Nat.lt_irrefl _), if_pos rfl, if_pos (Nat.lt_succ_self _), Nat.zero_add]
        · rw [if_neg e, Nat.add_zero]
          by_cases h : t < s
          · rw [if_pos h, if_pos (by omega)]
          · rw [if_neg h, if_neg (by omega)]
    · have e : s = stp x n := by omega
      subst e
      rw [if_neg (fun q => hsn ((nI_ltI (by omega) (by omega)).mp q.1))]
      refine wo_some ?_
      try dsimp only
      refine ⟨fun t ht => ?_, zl, zf⟩
      rw [z25 t ht, bF_s]
      by_cases hV : V v = true
      · rw [if_pos hV, if_pos hV]
      · rw [if_neg hV, if_neg hV, if_pos ht]
  · rw [wz t ht]
    by_cases hV : V v = true
    · rw [if_pos hV]; rfl
    · rw [if_neg hV, if_neg (Nat.not_lt_zero _)]; rfl
set_option maxHeartbeats 300000 in
theorem before_ok (hn : n ≤ 6) (h64 : stp x n ≤ 64) (h6 : ∀ r, r < n → x r ≤ 6) (hC : CS V ok td x n σ) : Wo (q7_countBefore σ) (fun a => (∀ v t, v ≤ n → t < stp x n → a 25 (v * 64 + t) = nI (bF V ok td x n v t)) ∧ ∀ i, i ≠ 25 → a i = σ i) := by
  have hp := stp_pos (x := x) n
  unfold q7_countBefore
  dsimp only [lt]
  rw [sa_nI (i := 25) (n := 448) (j := 0) (k := 0) rfl (by decide) (by decide)]
  simp only [Option.bind_some]
  refine wo_bind (wo_mono (Q := fun y => (∀ v t, v ≤ n → t < stp x n → y.2 25 (v * 64 + t) = nI (bF V ok td x n v t)) ∧ ∀ i, i ≠ 25 → y.2 i = σ i) ?_ (fun y hy => wo_some hy))
  refine lpW2 n (fun v p w => p = nI v ∧ (∀ v' t, v' ≤ v → t < stp x n → w 25 (v' * 64 + t) = nI (bF V ok td x n v' t)) ∧ (∀ j, (v + 1) * 64 ≤ j → j < 448 → w 25 j = 0) ∧ ∀ i, i ≠ 25 → w i = σ i) ?_ fuelN 0 _ _ (Nat.zero_le _) (fuel_ok (by omega)) ⟨rfl, fun v' t hv' ht => ?_, fun j h1 h2 => by rw [up_off (by omega), fil_in h2], fun i hi => by rw [up_pl hi, fil_pl hi]⟩
  · rintro rec v p w hv ⟨rfl, w25, wz, wf⟩ IH
    have hCw : CS V ok td x n w := hC.mv (by rw [wf 21 (by decide)]) (by rw [wf 21 (by decide)]) (by rw [wf 21 (by decide)]) (wf 22 (by decide)) (wf 23 (by decide)) (wf 24 (by decide))
    rw [hCw.1]
    refine wo_ite (fun hlt => ?_) (fun hge => ?_)
    · have hvn : v < n := (nI_ltI (by omega) (by omega)).mp hlt
      refine wo_bind (wo_mono (Q := fun y => (∀ t, t < stp x n → y.2 25 ((v + 1) * 64 + t) = nI (bF V ok td x n (v + 1) t)) ∧ (∀ j, j < (v + 1) * 64 ∨ (v + 2) * 64 ≤ j → y.2 25 j = w 25 j) ∧ ∀ i, i ≠ 25 → y.2 i = w i) ?_ ?_)
      · exact row_ok hn h64 h6 hCw hvn (fun t ht => w25 v t (Nat.le_refl _) ht) (fun t ht => wz _ (by omega) (by omega))
      · rintro ⟨y1, y⟩ ⟨y25, yl, yf⟩
        dsimp only at y25 yl yf ⊢
        rw [nI_1]
        have A1 : ∀ v' t, v' ≤ v + 1 → t < stp x n → y 25 (v' * 64 + t) = nI (bF V ok td x n v' t) := fun v' t hv' ht => by
          by_cases e : v' = v + 1
          · subst e; exact y25 t ht
          · have hj : v' * 64 + t < (v + 1) * 64 := by omega
            rw [yl _ (Or.inl hj)]
            exact w25 v' t (by omega) ht
        have A2 : ∀ j, (v + 1 + 1) * 64 ≤ j → j < 448 → y 25 j = 0 := fun j h1 h2 => by
          rw [yl j (Or.inr h1)]
          exact wz j (Nat.le_trans (Nat.mul_le_mul_right 64 (Nat.le_succ (v + 1))) h1) h2
        have A3 : ∀ i, i ≠ 25 → y i = σ i := fun i hi => (yf i hi).trans (wf i hi)
        exact IH (nI (v + 1)) y hvn ⟨rfl, A1, A2, A3⟩
    · have : v = n := by
        have : ¬ v < n := fun q => hge (nI_lt q (by omega))
        omega
      subst this
      refine wo_some ?_
      try dsimp only
      exact ⟨w25, wf⟩
  · have e : v' = 0 := by omega
    subst e
    show _ = nI (if t = 0 then 1 else 0)
    by_cases h : t = 0
    · rw [if_pos h, h, up_at]; rfl
    · rw [if_neg h, up_off (by omega), fil_in (by omega)]; rfl
/-- both tables -/
def DT (V : Nat → Bool) (ok : Nat → Nat → Bool) (td : Nat → Bool) (x : Nat → Nat) (n : Nat) (σ : St) : Prop := CS V ok td x n σ ∧ (∀ v t, v ≤ n → t < stp x n → σ 25 (v * 64 + t) = nI (bF V ok td x n v t)) ∧ ∀ v s, v ≤ n → s < stp x n → σ 26 (v * 64 + s) = nI (aW V ok td x n (n - v) v s)
theorem partOf_ok (hn : n ≤ 6) (h64 : stp x n ≤ 64) (h6 : ∀ r, r < n → x r ≤ 6) (hD : DT V ok td x n σ) {p o : Nat} (hp : p < n) (ho : o < n) (hV : V p = true) : q7_partOf σ (nI p) (nI o) = some (nI (aW V (okM ok p o) td x n n 0 0)) := by
  obtain ⟨hC, h25, h26⟩ := hD
  unfold q7_partOf
  dsimp only [lt]
  have key : Wo (loop2 (fun rec4_ (sum7_ : Int32) (s8_ : Int32) =>
  if (s8_ < (σ 21 7)) ∧ (s8_ < 64) then
  Option.bind (ag σ 25 448 ((nI p * 64) + s8_)) fun x16_ =>
  Option.bind (q7_waysWith σ (nI p) (nI o) s8_) fun x18_ =>
  rec4_ (sum7_ + (x16_ * x18_)) (s8_ + 1)
  else (some (sum7_, s8_))) fuelN (0 : Int32) (0 : Int32)) (fun y => y.1 = nI (sm (fun s => bF V ok td x n p s * wy V ok td x n p o s) (stp x n))) := by
    refine lpW2 (stp x n) (fun s a q => q = nI s ∧ a = nI (sm (fun s => bF V ok td x n p s * wy V ok td x n p o s) s)) ?_ fuelN 0 _ _ (Nat.zero_le _) (fuel_ok (by omega)) ⟨rfl, rfl⟩
    rintro rec s a q hs ⟨rfl, rfl⟩ IH
    rw [hC.2.2.1]
    by_cases hsn : s < stp x n
    · rw [if_pos ⟨nI_lt hsn (by omega), nI_lt (b := 64) (by omega) (by omega)⟩, ag_nI (σ := σ) (i := 25) (n := 448) (ix64 p s) (by omega) (by decide), h25 p s (by omega) hsn]
      simp only [Option.bind_some]
      rw [ways_ok (A := aW V ok td x n (n - p - 1) (p + 1)) hn h64 h6 hC hp hsn ho (fun t ht => by rw [h26 (p + 1) t (by omega) ht, show n - (p + 1) = n - p - 1 by omega])]
      simp only [Option.bind_some]
      rw [pk_mul, nI_add, nI_1]
      exact IH _ _ hsn ⟨rfl, rfl⟩
    · have e : s = stp x n := by omega
      subst e
      rw [if_neg (fun q => hsn ((nI_ltI (by omega) (by omega)).mp q.1))]
      exact wo_some rfl
  obtain ⟨y, ey, hy⟩ := key
  rw [ey]
  simp only [Option.bind_some]
  rw [hy, part_eq hp ho hV]
end
theorem choices_ok {σ : St} {m : Nat → Int32} {n v : Nat} (hV : RVd (vd σ 44) m n) (h5 : σ 21 5 = nI n) (hv : v < n) : q7_choicesOf σ 44 (nI (bs (fRn m) n)) (nI v) = some (nI (bs (okB m v) n)) := by
  have hn := hV.1.1
  unfold q7_choicesOf
  dsimp only [lt]
  have key : Wo (loop2 (fun rec4_ (bits7_ : Int32) (r8_ : Int32) =>
  if r8_ < (σ 21 5) then
  Option.bind (Option.bind (if q11_isIn (nI (bs (fRn m) n)) r8_ = true then (Option.bind (q10_likingOf σ 44 (nI v) r8_) fun x23_ =>
  if 4 ≤ x23_ then (some true) else (some false)) else (some false)) fun t20_ =>
  if t20_ = true then (some (bits7_ ||| (shl 1 r8_))) else (some (bits7_))) fun y15_ =>
  rec4_ y15_ (r8_ + 1)
  else (some (bits7_, r8_))) fuelN (0 : Int32) (0 : Int32)) (fun y => y.1 = nI (bs (okB m v) n)) := by
    refine lpW2 n (fun t a p => p = nI t ∧ a = nI (bs (okB m v) t)) ?_ fuelN 0 _ _ (Nat.zero_le _) (fuel_ok (by omega)) ⟨rfl, rfl⟩
    rintro rec t a p ht ⟨rfl, rfl⟩ IH
    rw [h5]
    refine wo_ite (fun hlt => ?_) (fun hge => ?_)
    · have htn : t < n := (nI_ltI (by omega) (by omega)).mp hlt
      rw [isIn_bs hn htn, nI_1]
      have hlik : q10_likingOf σ 44 (nI v) (nI t) = some (lk m v t) := by
        unfold lk
        by_cases e : v = t
        · subst e; rw [likingOf_eq, if_pos rfl]
        · rw [likingOf_ne (by omega) (by omega) e, if_neg e]
          exact congrArg some (hV.2.2.2.1 v t hv htn e)
      rw [hlik]
      simp only [Option.bind_some]
      have hob : okB m v t = (fRn m t && decide (4 ≤ lk m v t)) := rfl
      have yes : okB m v t = true → nI (bs (okB m v) t) ||| shl 1 (nI t) = nI (bs (okB m v) (t + 1)) := fun h => by
        rw [or_bit t (by omega) _ (bs_le (by omega) _) (bs_lt _ _)]
        show _ = nI (bs _ t + _)
        rw [h, if_pos rfl]
      have no : okB m v t = false → nI (bs (okB m v) t) = nI (bs (okB m v) (t + 1)) := fun h => by
        show _ = nI (bs _ t + _)
        rw [h, if_neg (by decide)]
        rfl
      cases hr : fRn m t with
      | false =>
        simp only [Bool.false_eq_true, if_false, Option.bind_some]
        exact IH _ _ htn ⟨rfl, no (by rw [hob, hr]; rfl)⟩
      | true =>
        simp only [if_true]
        by_cases h4 : 4 ≤ lk m v t
        · rw [if_pos h4]
          simp only [Option.bind_some, if_true]
          exact IH _ _ htn ⟨rfl, yes (by rw [hob, hr, decide_eq_true h4]; rfl)⟩
        · rw [if_neg h4]
          simp only [Option.bind_some, Bool.false_eq_true, if_false]
          exact IH _ _ htn ⟨rfl, no (by rw [hob, hr, decide_eq_false h4]; rfl)⟩
    · have : t = n := by
        have : ¬ t < n := fun q => hge (nI_lt q (by omega))
        omega
      subst this
      exact wo_some rfl
  obtain ⟨y, ey, hy⟩ := key
  rw [ey]
  simp only [Option.bind_some]
  rw [hy]
theorem cways_ok {V : Nat → Bool} {td : Nat → Bool} {x : Nat → Nat} {n : Nat} {σ : St} {m : Nat → Int32} (hV : RVd (vd σ 44) m n) (h5 : σ 21 5 = nI n) (h6v : σ 21 6 = nI (bs V n)) (h22 : ∀ r, r < n → σ 22 r = tdV td x r) (hx : ∀ r, td r = false → x r = 0) (h6 : ∀ r, r < n → x r ≤ 6) (h64 : stp x n ≤ 64) : Wo (q7_countWays σ 44 (nI (bs (fRn m) n))) (fun a => DT V (okB m) td x n a ∧ a 21 8 = nI (aW V (okB m) td x n n 0 0) ∧ ∀ i, i < 21 ∨ 26 < i → a i = σ i) := by
  have hn := hV.1.1
  unfold q7_countWays
  dsimp only [lt]
  refine wo_bind (wo_mono (Q := fun y => y.2 21 7 = nI (stp x n) ∧ (∀ r, r < n → y.2 23 r = nI (stp x r)) ∧ (∀ k, k ≠ 7 → y.2 21 k = σ 21 k) ∧ ∀ i, i ≠ 21 → i ≠ 23 → y.2 i = σ i) ?_ ?_)
  · refine lpW2 n (fun t p w => p = nI t ∧ w 21 7 = nI (stp x t) ∧ (∀ r, r < t → w 23 r = nI (stp x r)) ∧ (∀ k, k ≠ 7 → w 21 k = σ 21 k) ∧ ∀ i, i ≠ 21 → i ≠ 23 → w i = σ i) ?_ fuelN 0 _ _ (Nat.zero_le _) (fuel_ok (by omega)) ⟨rfl, up_at, fun r hr => absurd hr (Nat.not_lt_zero _), fun k hk => up_off hk, fun i h1 _ => up_pl h1⟩
    rintro rec t p w ht ⟨rfl, w7, w23, wk, wf⟩ IH
    rw [wk 5 (by decide), h5]
    refine wo_ite (fun hlt => ?_) (fun hge => ?_)
    · have htn : t < n := (nI_ltI (by omega) (by omega)).mp hlt
      rw [sa_nI (σ := w) (i := 23) (n := 6) (j := nI t) (k := t) rfl (by omega) (by decide), w7]
      simp only [Option.bind_some]
      rw [ag_nI (i := 22) (n := 6) (j := nI t) (k := t) rfl (by omega) (by decide), up_pl (by decide), wf 22 (by decide) (by decide), h22 t htn]
      simp only [Option.bind_some]
      rw [tdV_max (hx t) (h6 t htn), nI_1, nI_1, up_pl (by decide), w7, pk_mul]
      refine IH _ _ htn ⟨rfl, up_at, fun r hr => ?_, fun k hk => by rw [up_off hk, up_pl (by decide)]; exact wk k hk, fun i h1 h2 => by rw [up_pl h1, up_pl h2]; exact wf i h1 h2⟩
      rw [up_pl (by decide)]
      by_cases e : r = t
      · subst e; rw [up_at]
      · rw [up_off e]; exact w23 r (by omega)
    · have : t = n := by
        have : ¬ t < n := fun q => hge (nI_lt q (by omega))
        omega
      subst this
      refine wo_some ?_
      try dsimp only
      exact ⟨w7, w23, wk, wf⟩
  · rintro ⟨y1, y⟩ ⟨y7, y23, yk, yf⟩
    dsimp only at y7 y23 yk yf ⊢
    refine wo_bind (wo_mono (Q := fun z => (∀ v, v < n → z.2 24 v = nI (bs (okB m v) n)) ∧ ∀ i, i ≠ 24 → z.2 i = y i) ?_ ?_)
    · refine lpW2 n (fun t p w => p = nI t ∧ (∀ v, v < t → w 24 v = nI (bs (okB m v) n)) ∧ ∀ i, i ≠ 24 → w i = y i) ?_ fuelN 0 _ _ (Nat.zero_le _) (fuel_ok (by omega)) ⟨rfl, fun v hv => absurd hv (Nat.not_lt_zero _), fun _ _ => rfl⟩
      rintro rec t p w ht ⟨rfl, w24, wf⟩ IH
      have w5 : w 21 5 = nI n := by rw [wf 21 (by decide), yk 5 (by decide)]; exact h5
      rw [w5]
      refine wo_ite (fun hlt => ?_) (fun hge => ?_)
      · have htn : t < n := (nI_ltI (by omega) (by omega)).mp hlt
        rw [choices_ok (m := m) (hV.mv (fun j hj => by rw [wf _ (by omega), yf _ (by omega) (by omega)])) w5 htn]
        simp only [Option.bind_some]
        rw [sa_nI (σ := w) (i := 24) (n := 6) (j := nI t) (k := t) rfl (by omega) (by decide), nI_1]
        simp only [Option.bind_some]
        refine IH _ _ htn ⟨rfl, fun v hv => ?_, fun i hi => by rw [up_pl hi]; exact wf i hi⟩
        by_cases e : v = t
        · subst e; rw [up_at]
        · rw [up_off e]; exact w24 v (by omega)
      · have : t = n := by
          have : ¬ t < n := fun q => hge (nI_lt q (by omega))
          omega
        subst this
        refine wo_some ?_
        try dsimp only
        exact ⟨w24, wf⟩
    · rintro ⟨z1, z⟩ ⟨z24, zf⟩
      dsimp only at z24 zf ⊢
      have hC : CS V (okB m) td x n z := ⟨by rw [zf 21 (by decide), yk 5 (by decide)]; exact h5, by rw [zf 21 (by decide), yk 6 (by decide)]; exact h6v, by rw [zf 21 (by decide)]; exact y7, fun r hr => by rw [zf 22 (by decide), yf 22 (by decide) (by decide)]; exact h22 r hr, fun r hr => by rw [zf 23 (by decide)]; exact y23 r hr, z24⟩
      obtain ⟨b, eb, b1, b2⟩ := before_ok hn h64 h6 hC
      have hCb : CS V (okB m) td x n b := hC.mv (by rw [b2 21 (by decide)]) (by rw [b2 21 (by decide)]) (by rw [b2 21 (by decide)]) (b2 22 (by decide)) (b2 23 (by decide)) (b2 24 (by decide))
      obtain ⟨a, ea, a1, a2⟩ := afterT_ok hn h64 h6 hCb
      rw [eb]
      simp only [Option.bind_some]
      rw [ea]
      simp only [Option.bind_some]
      have a0 : a 26 0 = nI (aW V (okB m) td x n n 0 0) := by
        have := a1 0 0 (Nat.zero_le _) (stp_pos n)
        rw [Nat.sub_zero] at this
        exact this
      rw [ag_nI (σ := a) (i := 26) (n := 448) (j := 0) (k := 0) rfl (by decide) (by decide), a0]
      simp only [Option.bind_some]
      refine wo_some ?_
      try dsimp only
      refine ⟨⟨?_, fun v t hv ht => ?_, fun v s hv hs => ?_⟩, up_at, fun i hi => ?_⟩
      · exact hCb.mv (by rw [up_off (by decide), a2 21 (by decide)]) (by rw [up_off (by decide), a2 21 (by decide)]) (by rw [up_off (by decide), a2 21 (by decide)]) (by rw [up_pl (by decide), a2 22 (by decide)]) (by rw [up_pl (by decide), a2 23 (by decide)]) (by rw [up_pl (by decide), a2 24 (by decide)])
      · rw [up_pl (by decide), a2 25 (by decide)]; exact b1 v t hv ht
      · rw [up_pl (by decide)]; exact a1 v s hv hs
      · rw [up_pl (by omega), a2 i (by omega), b2 i (by omega), zf i (by omega), yf i (by omega) (by omega)]

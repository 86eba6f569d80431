/-! LAYER 2: THE LAST LOAF -/
theorem HeldC.re6 {fav : FavT} {ab : AbsT} {σ s s' : St} {m : Nat → Int32} {n : Nat} (h : HeldC fav ab σ s m n) (e6 : s' 6 = s 6) (e7 : s' 7 = s 7) (e8 : s' 8 = s 8) : HeldC fav ab s' s' m n := by
  obtain ⟨h1, h2, h3, h4, h5, -, -⟩ := h
  refine ⟨by rw [e6]; exact h1, by rw [e6]; exact h2, by rw [e6]; exact h3, by rw [e6]; exact h4, fun p hp hv x hx hr => ?_, fun _ _ _ _ _ => rfl, fun _ _ _ => rfl⟩
  rw [e7, e8]
  exact h5 p hp hv x hx hr
theorem HeldM.re {fav : FavT} {ab : AbsT} {ν u u' : St} {m : Nat → Int32} {n : Nat} (h : HeldM fav ab ν u m n) (e0 : u' 0 = u 0) (e7 : u' 7 = u 7) : HeldM fav ab u' u' m n := by
  obtain ⟨h1, h2, h3, -, -⟩ := h
  exact ⟨by rw [e0]; exact h1, by rw [e0]; exact h2, fun p o hp ho => by rw [e7]; exact h3 p o hp ho, fun _ _ _ _ => rfl, fun _ _ => rfl, id⟩
theorem votesRow {u u' : St} {o y s : Int32} (e0 : u' 0 = u 0) (e7 : u' 7 = u 7) (e3 : u' 1 3 = u 1 3) : q12_votesAt u' o y s = q12_votesAt u o y s := by
  unfold q12_votesAt q12_aheadOf q12_hasAhead
  have a3 : ag u' 1 752 3 = ag u 1 752 3 := by rw [ag3, ag3, e3]
  have a7 : ∀ j, ag u' 7 49 j = ag u 7 49 j := fun j => by unfold ag; rw [e7]
  simp only [a3, e0, a7]
def lfH (m : Nat → Int32) (x : Int32) (q : Nat) : Int32 := if nI q = x then 0 else if fRn m q = true then imin 9 (m (14 + 7 * q) + 1) else m (14 + 7 * q)
def lfD (m : Nat → Int32) (x : Int32) (q : Nat) : Int32 := if nI q = x then imin 999 (m (14 + 7 * q + 5) + 1) else m (14 + 7 * q + 5)
def lfR (m : Nat → Int32) (x : Int32) (q : Nat) : Int32 := if nI q = x then imin 99 (m (14 + 7 * q + 6) + 1) else 0
def lfC (m : Nat → Int32) (x c : Int32) (v n : Nat) (s a : St) : Prop := (∀ q, q < n → a (v + 1) q = lfH m x q ∧ a (v + 4) q = lfD m x q ∧ a (v + 5) q = lfR m x q) ∧ (∀ q, n ≤ q → a (v + 4) q = s (v + 4) q ∧ a (v + 5) q = s (v + 5) q) ∧ (∀ j, j = 2 ∨ j = 3 ∨ j = 6 ∨ j = 7 → a (v + j) = s (v + j)) ∧ (∀ k, k ≠ 11 → a v k = s v k) ∧ ((x = -1 ∧ a v 11 = s v 11 ∧ a (v + 8) = s (v + 8) ∧ a (v + 9) = s (v + 9)) ∨ (¬ x = -1 ∧ a v 11 = s v 11 - 1 ∧ ∃ w : St, w (v + 8) = s (v + 8) ∧ w (v + 9) = s (v + 9) ∧ q3_write w (v + 8) (s v 12) 0 x c = some a)) ∧ ∀ i, i < v ∨ v + 10 ≤ i → a i = s i
theorem loafC {fav : FavT} {ab : AbsT} {v n : Nat} {s : St} {m : Nat → Int32} {x : Int32} (hv : v = 44 ∨ v = 54) (hV : RVd (vd s v) m n) (hx : x = -1 ∨ ∃ i, i < n ∧ x = nI i ∧ ∃ τ, HeldC fav ab τ s m n) : Wo (Option.bind (loop2 (fun rec15_ (p18_ : Int32) (σ19_ : St) =>
  if p18_ < (σ19_ v 8) then
  Option.bind (if ¬ p18_ = x then (Option.bind (sa σ19_ (v + 5) 6 p18_ 0) fun σ33_ =>
  Option.bind (if q11_isIn (q10_runners σ33_ v) p18_ = true then (Option.bind (q10_hungerMore σ33_ v p18_) fun x42_ =>
  some (x42_)) else (some (σ33_))) fun y35_ =>
  some (y35_)) else (some (σ19_))) fun y26_ =>
  rec15_ (p18_ + 1) y26_
  else (some (p18_, σ19_))) fuelN (0 : Int32) s) fun y12_ =>
  Option.bind (if ¬ x = (-1) then (Option.bind (sa (up y12_.2 v 11 ((y12_.2 v 11) - 1)) (v + 1) 6 x 0) fun σ55_ =>
  Option.bind (ag σ55_ (v + 4) 6 x) fun x57_ =>
  Option.bind (sa σ55_ (v + 4) 6 x (imin 999 (x57_ + 1))) fun σ59_ =>
  Option.bind (ag σ59_ (v + 5) 6 x) fun x61_ =>
  Option.bind (sa σ59_ (v + 5) 6 x (imin 99 (x61_ + 1))) fun σ63_ =>
  Option.bind (q5_votesOf σ63_ x) fun x65_ =>
  Option.bind (q3_write σ63_ (v + 8) (σ63_ v 12) 0 x x65_) fun x67_ =>
  some (x67_)) else (some (y12_.2))) fun y46_ =>
  some y46_) (fun a => ∃ c, (∀ i, i < n → x = nI i → c = nI (cn (vtB fav ab m (fRn m) n i 0) n)) ∧ lfC m x c v n s a) := by
  have hn := hV.1.1
  have s8 : s v 8 = nI n := hV.1.2.1
  refine wo_bind (wo_mono (Q := fun y => (∀ q, q < 6 → y.2 (v + 1) q = if q < n ∧ ¬ nI q = x ∧ fRn m q = true then imin 9 (s (v + 1) q + 1) else s (v + 1) q) ∧ (∀ q, y.2 (v + 5) q = if q < n ∧ ¬ nI q = x then 0 else s (v + 5) q) ∧ ∀ i, i ≠ v + 1 → i ≠ v + 5 → y.2 i = s i) ?_ ?_)
  · refine lpW2 n (fun k p w => p = nI k ∧ (∀ q, q < 6 → w (v + 1) q = if q < k ∧ ¬ nI q = x ∧ fRn m q = true then imin 9 (s (v + 1) q + 1) else s (v + 1) q) ∧ (∀ q, w (v + 5) q = if q < k ∧ ¬ nI q = x then 0 else s (v + 5) q) ∧ ∀ i, i ≠ v + 1 → i ≠ v + 5 → w i = s i) ?_ fuelN 0 0 s (Nat.zero_le _) (fuel_ok (by omega)) ⟨rfl, fun q _ => by rw [if_neg (by omega)], fun q => by rw [if_neg (by omega)], fun _ _ _ => rfl⟩
    rintro rec k p w hk ⟨rfl, w1, w5, wf⟩ IH
    have wv : w v = s v := wf v (by omega) (by omega)
    rw [wv, s8]
    refine wo_ite (fun hlt => ?_) (fun hge => ?_)
    · have hkn : k < n := (nI_ltI (by omega) (by omega)).mp hlt
      rw [nI_1]
      by_cases hkx : nI k = x
      · rw [if_neg (not_not_intro hkx)]
        simp only [Option.bind_some]
        refine IH _ _ hkn ⟨rfl, fun q hq => ?_, fun q => ?_, wf⟩
        · rw [w1 q hq]
          by_cases hqk : q = k
          · subst hqk
            rw [if_neg (by omega), if_neg (fun h => h.2.1 hkx)]
          · by_cases hc : q < k ∧ ¬ nI q = x ∧ fRn m q = true
            · rw [if_pos hc, if_pos ⟨by omega, hc.2⟩]
            · rw [if_neg hc, if_neg (fun h => hc ⟨by omega, h.2⟩)]
        · rw [w5 q]
          by_cases hqk : q = k
          · subst hqk
            rw [if_neg (by omega), if_neg (fun h => h.2 hkx)]
          · by_cases hc : q < k ∧ ¬ nI q = x
            · rw [if_pos hc, if_pos ⟨by omega, hc.2⟩]
            · rw [if_neg hc, if_neg (fun h => hc ⟨by omega, h.2⟩)]
      · rw [if_pos hkx, sa_nI (k := k) rfl (by omega) (by decide)]
        simp only [Option.bind_some]
        have er : q11_isIn (q10_runners (up w (v + 5) k 0) v) (nI k) = fRn m k := by
          unfold q10_runners
          rw [up_pl (by omega), wv, show s v 9 = nI (bs (fS m) n) from hV.2.2.1.1, show s v 10 = nI (bs (fB m) n) from hV.2.2.1.2, run_bs hn, isIn_bs hn hkn]
          rfl
        rw [er]
        have h5 : ∀ (w' : St), w' (v + 5) = up w (v + 5) k 0 (v + 5) → ∀ q, w' (v + 5) q = if q < k + 1 ∧ ¬ nI q = x then 0 else s (v + 5) q := fun w' e q => by
          rw [e]
          by_cases hqk : q = k
          · subst hqk
            rw [up_at, if_pos ⟨by omega, hkx⟩]
          · rw [up_off hqk, w5 q]
            by_cases hc : q < k ∧ ¬ nI q = x
            · rw [if_pos hc, if_pos ⟨by omega, hc.2⟩]
            · rw [if_neg hc, if_neg (fun h => hc ⟨by omega, h.2⟩)]
        cases hRk : fRn m k with
        | false =>
          simp only [Bool.false_eq_true, if_false, Option.bind_some]
          refine IH _ _ hkn ⟨rfl, fun q hq => ?_, h5 _ rfl, fun i h1 h5 => by rw [up_pl h5]; exact wf i h1 h5⟩
          rw [up_pl (by omega), w1 q hq]
          by_cases hqk : q = k
          · subst hqk
            rw [if_neg (by omega), if_neg (fun h => by rw [hRk] at h; cases h.2.2)]
          · by_cases hc : q < k ∧ ¬ nI q = x ∧ fRn m q = true
            · rw [if_pos hc, if_pos ⟨by omega, hc.2⟩]
            · rw [if_neg hc, if_neg (fun h => hc ⟨by omega, h.2⟩)]
        | true =>
          unfold q10_hungerMore
          simp only [if_true]
          rw [ag_nI (k := k) rfl (by omega) (by decide)]
          simp only [Option.bind_some]
          rw [sa_nI (k := k) rfl (by omega) (by decide)]
          simp only [Option.bind_some]
          have e1 : up w (v + 5) k 0 (v + 1) k = s (v + 1) k := by rw [up_pl (by omega), w1 k (by omega), if_neg (by omega)]
          rw [e1]
          refine IH _ _ hkn ⟨rfl, fun q hq => ?_, h5 _ (up_pl (by omega)), fun i h1 h5 => by rw [up_pl h1, up_pl h5]; exact wf i h1 h5⟩
          by_cases hqk : q = k
          · subst hqk
            rw [up_at, if_pos ⟨by omega, hkx, hRk⟩]
          · rw [up_off hqk, up_pl (by omega), w1 q hq]
            by_cases hc : q < k ∧ ¬ nI q = x ∧ fRn m q = true
            · rw [if_pos hc, if_pos ⟨by omega, hc.2⟩]
            · rw [if_neg hc, if_neg (fun h => hc ⟨by omega, h.2⟩)]
    · have : k = n := by
        have : ¬ k < n := fun q => hge (nI_lt q (by omega))
        omega
      subst this
      exact wo_some ⟨w1, w5, wf⟩
  · rintro ⟨p, y⟩ ⟨y1, y5, yf⟩
    dsimp only at y1 y5 yf ⊢
    have yv : y v = s v := yf v (by omega) (by omega)
    have y4 : y (v + 4) = s (v + 4) := yf _ (by omega) (by omega)
    have hp := hV.2.1
    rcases hx with hx | ⟨i, hi, hxi, τ, hC⟩
    · subst hx
      rw [if_neg (not_not_intro rfl)]
      have hq1 : ∀ q, q < n → ¬ nI q = -1 := fun q hq => nI_m1 (by omega)
      refine wo_some ⟨0, fun i hi e => absurd e.symm (hq1 i hi), fun q hq => ⟨?_, ?_, ?_⟩, fun q hq => ⟨?_, ?_⟩, fun j hj => yf _ (by omega) (by omega), fun k hk => by rw [yv], Or.inl ⟨rfl, by rw [yv], yf _ (by omega) (by omega), yf _ (by omega) (by omega)⟩, fun i hi => yf i (by omega) (by omega)⟩
      · unfold lfH
        rw [y1 q (by omega), if_neg (hq1 q hq), show s (v + 1) q = m (14 + 7 * q) from (hp q hq).1]
        by_cases hR : fRn m q = true
        · rw [if_pos ⟨hq, hq1 q hq, hR⟩, if_pos hR]
        · rw [if_neg (fun h => hR h.2.2), if_neg hR]
      · unfold lfD
        rw [y4, if_neg (hq1 q hq)]
        exact (hp q hq).2.2.2.1
      · unfold lfR
        rw [y5 q, if_pos ⟨hq, hq1 q hq⟩, if_neg (hq1 q hq)]
      · rw [y4]
      · rw [y5 q, if_neg (by omega)]
    · subst hxi
      have hne : ∀ q, q < n → q ≠ i → ¬ nI q = nI i := fun q hq h => nIe (by omega) (by omega) h
      rw [if_pos (nI_m1 (by omega)), sa_nI (k := i) rfl (by omega) (by decide)]
      simp only [Option.bind_some]
      rw [ag_nI (k := i) rfl (by omega) (by decide)]
      simp only [Option.bind_some]
      rw [sa_nI (k := i) rfl (by omega) (by decide)]
      simp only [Option.bind_some]
      rw [ag_nI (k := i) rfl (by omega) (by decide)]
      simp only [Option.bind_some]
      rw [sa_nI (k := i) rfl (by omega) (by decide)]
      simp only [Option.bind_some]
      have e4 : up (up y v 11 (y v 11 - 1)) (v + 1) i 0 (v + 4) i = m (14 + 7 * i + 5) := by
        rw [up_pl (by omega), up_pl (by omega), y4]; exact (hp i hi).2.2.2.1
      rw [e4]
      have e5 : up (up (up y v 11 (y v 11 - 1)) (v + 1) i 0) (v + 4) i (imin 999 (m (14 + 7 * i + 5) + 1)) (v + 5) i = m (14 + 7 * i + 6) := by
        rw [up_pl (by omega), up_pl (by omega), up_pl (by omega), y5 i, if_neg (fun h => h.2 rfl)]; exact (hp i hi).2.2.2.2
      rw [e5]
      have t1 : ∀ q, q < n → up (up (up (up y v 11 (y v 11 - 1)) (v + 1) i 0) (v + 4) i (imin 999 (m (14 + 7 * i + 5) + 1))) (v + 5) i (imin 99 (m (14 + 7 * i + 6) + 1)) (v + 1) q = lfH m (nI i) q := fun q hq => by
        unfold lfH
        rw [up_pl (by omega), up_pl (by omega)]
        by_cases hqi : q = i
        · subst hqi; rw [up_at, if_pos rfl]
        · rw [up_off hqi, up_pl (by omega), y1 q (by omega), if_neg (hne q hq hqi), show s (v + 1) q = m (14 + 7 * q) from (hp q hq).1]
          by_cases hR : fRn m q = true
          · rw [if_pos ⟨hq, hne q hq hqi, hR⟩, if_pos hR]
          · rw [if_neg (fun h => hR h.2.2), if_neg hR]
      have t4 : ∀ q, up (up (up (up y v 11 (y v 11 - 1)) (v + 1) i 0) (v + 4) i (imin 999 (m (14 + 7 * i + 5) + 1))) (v + 5) i (imin 99 (m (14 + 7 * i + 6) + 1)) (v + 4) q = if q = i then imin 999 (m (14 + 7 * i + 5) + 1) else s (v + 4) q := fun q => by
        rw [up_pl (by omega)]
        by_cases hqi : q = i
        · subst hqi; rw [up_at, if_pos rfl]
        · rw [up_off hqi, up_pl (by omega), up_pl (by omega), y4, if_neg hqi]
      have t5 : ∀ q, up (up (up (up y v 11 (y v 11 - 1)) (v + 1) i 0) (v + 4) i (imin 999 (m (14 + 7 * i + 5) + 1))) (v + 5) i (imin 99 (m (14 + 7 * i + 6) + 1)) (v + 5) q = if q = i then imin 99 (m (14 + 7 * i + 6) + 1) else if q < n then 0 else s (v + 5) q := fun q => by
        by_cases hqi : q = i
        · subst hqi; rw [up_at, if_pos rfl]
        · rw [up_off hqi, up_pl (by omega), up_pl (by omega), up_pl (by omega), y5 q, if_neg hqi]
          by_cases hqn : q < n
          · rw [if_pos ⟨hqn, hne q hqn hqi⟩, if_pos hqn]
          · rw [if_neg (by omega), if_neg hqn]
      have tv : ∀ k, k ≠ 11 → up (up (up (up y v 11 (y v 11 - 1)) (v + 1) i 0) (v + 4) i (imin 999 (m (14 + 7 * i + 5) + 1))) (v + 5) i (imin 99 (m (14 + 7 * i + 6) + 1)) v k = s v k := fun k hk => by
        rw [up_pl (by omega), up_pl (by omega), up_pl (by omega), up_off hk, yv]
      have t11 : up (up (up (up y v 11 (y v 11 - 1)) (v + 1) i 0) (v + 4) i (imin 999 (m (14 + 7 * i + 5) + 1))) (v + 5) i (imin 99 (m (14 + 7 * i + 6) + 1)) v 11 = s v 11 - 1 := by
        rw [up_pl (by omega), up_pl (by omega), up_pl (by omega), up_at, yv]
      have tf : ∀ j, j ≠ v → j ≠ v + 1 → j ≠ v + 4 → j ≠ v + 5 → up (up (up (up y v 11 (y v 11 - 1)) (v + 1) i 0) (v + 4) i (imin 999 (m (14 + 7 * i + 5) + 1))) (v + 5) i (imin 99 (m (14 + 7 * i + 6) + 1)) j = s j := fun j h0 h1 h4 h5 => by
        rw [up_pl h5, up_pl h4, up_pl h1, up_pl h0]; exact yf j h1 h5
      generalize up (up (up (up y v 11 (y v 11 - 1)) (v + 1) i 0) (v + 4) i (imin 999 (m (14 + 7 * i + 5) + 1))) (v + 5) i (imin 99 (m (14 + 7 * i + 6) + 1)) = w at t1 t4 t5 tv t11 tf
      have hC' := hC.re6 (tf 6 (by omega) (by omega) (by omega) (by omega)) (tf 7 (by omega) (by omega) (by omega) (by omega)) (tf 8 (by omega) (by omega) (by omega) (by omega))
      rw [votesOf_ok hn hC' hi]
      simp only [Option.bind_some]
      obtain ⟨Lg, g, hLg, hg, l3, l4, -, -⟩ := hV.2.2.2.2.2.2.2
      have w8 : w (v + 8) = s (v + 8) := tf _ (by omega) (by omega) (by omega) (by omega)
      have w9 : w (v + 9) = s (v + 9) := tf _ (by omega) (by omega) (by omega) (by omega)
      rw [tv 12 (by decide)]
      obtain ⟨a, ea, -, -, -, af⟩ := logC (w := w) (t := v + 8) (wk := s v 12) (a := 0) (b := nI i) (c := nI (cn (vtB fav ab m (fRn m) n i 0) n)) hg hLg (by rw [w8]; exact l4) (by rw [w8]; exact l3)
      rw [ea]
      have av : ∀ j, j < 8 → a (v + j) = w (v + j) := fun j hj => af _ (by omega) (by omega)
      have av0 : a v = w v := av 0 (by omega)
      refine wo_some ⟨_, fun j hj e => ?_, fun q hq => ⟨?_, ?_, ?_⟩, fun q hq => ⟨?_, ?_⟩, fun j hj => ?_, fun k hk => by rw [av0]; exact tv k hk, Or.inr ⟨nI_m1 (by omega), by rw [av0]; exact t11, w, w8, w9, ea⟩, fun j hj => ?_⟩
      · have : i = j := (nI_eq (by omega) (by omega)).mp e
        rw [this]
      · rw [av 1 (by omega)]; exact t1 q hq
      · rw [av 4 (by omega), t4 q]
        unfold lfD
        by_cases hqi : q = i
        · rw [if_pos hqi, hqi, if_pos rfl]
        · rw [if_neg hqi, if_neg (hne q hq hqi)]; exact (hp q hq).2.2.2.1
      · rw [av 5 (by omega), t5 q]
        unfold lfR
        by_cases hqi : q = i
        · rw [if_pos hqi, hqi, if_pos rfl]
        · rw [if_neg hqi, if_neg (hne q hq hqi), if_pos hq]
      · rw [av 4 (by omega), t4 q, if_neg (by omega)]
      · rw [av 5 (by omega), t5 q, if_neg (by omega), if_neg (by omega)]
      · rw [av j (by omega), tf _ (by omega) (by omega) (by omega) (by omega)]
      · rw [af j (by omega) (by omega), tf j (by omega) (by omega) (by omega) (by omega)]
theorem loafM {n : Nat} {u : St} {m : Nat → Int32} {x : Int32} (hn : n ≤ 6) (hW : WFm m n) (h3 : m 3 = nI n) (hu3 : u 1 3 = nI n) (he : ∀ q, q < n → ∀ j, j < 7 → u 1 (14 + 7 * q + j) = m (14 + 7 * q + j)) : Wo (Option.bind (loop2 (fun rec34_ (p37_ : Int32) (σ38_ : St) =>
  Option.bind (ag σ38_ 1 752 3) fun x43_ =>
  if p37_ < x43_ then
  if p37_ = x then (Option.bind (q12_lays σ38_ p37_ 0 0) fun x51_ =>
  Option.bind (q12_of x51_ p37_ 5) fun x53_ =>
  Option.bind (q12_lays x51_ p37_ 5 (q12_lesser 999 (x53_ + 1))) fun x55_ =>
  Option.bind (q12_of x55_ p37_ 6) fun x57_ =>
  Option.bind (q12_lays x55_ p37_ 6 (q12_lesser 99 (x57_ + 1))) fun x59_ =>
  rec34_ (p37_ + 1) x59_) else
  Option.bind (q12_lays σ38_ p37_ 6 0) fun x61_ =>
  Option.bind (Option.bind (Option.bind (q12_of x61_ p37_ 3) fun x70_ =>
  if x70_ = 1 then (Option.bind (q12_of x61_ p37_ 4) fun x73_ =>
  if x73_ = 0 then (some true) else (some false)) else (some false)) fun t68_ =>
  if t68_ = true then (Option.bind (q12_isHungrier x61_ p37_) fun x77_ =>
  some (x77_)) else (some (x61_))) fun y63_ =>
  rec34_ (p37_ + 1) y63_
  else (some (p37_, σ38_))) fuelN (0 : Int32) u) fun y31_ =>
  some y31_.2) (fun b => (∀ q, q < n → b 1 (14 + 7 * q) = lfH m x q ∧ b 1 (14 + 7 * q + 5) = lfD m x q ∧ b 1 (14 + 7 * q + 6) = lfR m x q) ∧ (∀ k, (∀ q, q < n → k ≠ 14 + 7 * q ∧ k ≠ 14 + 7 * q + 5 ∧ k ≠ 14 + 7 * q + 6) → b 1 k = u 1 k) ∧ ∀ i, i ≠ 1 → b i = u i) := by
  refine wo_bind ?_
  refine lpW2 n (fun k p w => p = nI k ∧ (∀ q, q < k → w 1 (14 + 7 * q) = lfH m x q ∧ w 1 (14 + 7 * q + 5) = lfD m x q ∧ w 1 (14 + 7 * q + 6) = lfR m x q) ∧ (∀ k', (∀ q, q < k → k' ≠ 14 + 7 * q ∧ k' ≠ 14 + 7 * q + 5 ∧ k' ≠ 14 + 7 * q + 6) → w 1 k' = u 1 k') ∧ ∀ i, i ≠ 1 → w i = u i) ?_ fuelN 0 0 u (Nat.zero_le _) (fuel_ok (by omega)) ⟨rfl, fun q hq => absurd hq (Nat.not_lt_zero _), fun _ _ => rfl, fun _ _ => rfl⟩
  rintro rec k p w hk ⟨rfl, w1, w2, wf⟩ IH
  refine wo_st ag3 ?_
  have e3 : w 1 3 = nI n := by rw [w2 3 (fun q hq => by omega)]; exact hu3
  rw [e3]
  refine wo_ite (fun hlt => ?_) (fun hge => ?_)
  · have hkn : k < n := (nI_ltI (by omega) (by omega)).mp hlt
    have ek : ∀ j, j < 7 → w 1 (14 + 7 * k + j) = m (14 + 7 * k + j) := fun j hj => by rw [w2 _ (fun q hq => by omega)]; exact he k hkn j hj
    rw [nI_1]
    by_cases hkx : nI k = x
    · rw [if_pos hkx, lays0 (by omega)]
      simp only [Option.bind_some]
      rw [of5 (by omega)]
      simp only [Option.bind_some]
      have l5 := fun (z : St) (y : Int32) => laysk (z := z) (p := k) (k := 5) (x := y) (by omega) (by omega)
      have l6 := fun (z : St) (y : Int32) => laysk (z := z) (p := k) (k := 6) (x := y) (by omega) (by omega)
      rw [show (5 : Int32) = nI 5 from rfl, show (6 : Int32) = nI 6 from rfl, l5]
      simp only [Option.bind_some]
      rw [show nI 6 = (6 : Int32) from rfl, of6 (by omega)]
      simp only [Option.bind_some]
      rw [show (6 : Int32) = nI 6 from rfl, l6]
      simp only [Option.bind_some]
      have a5 : up w 1 (14 + 7 * k) 0 1 (14 + 7 * k + 5) = m (14 + 7 * k + 5) := by rw [up_off (by omega)]; exact ek 5 (by omega)
      rw [a5]
      have a6 : up (up w 1 (14 + 7 * k) 0) 1 (14 + 7 * k + 5) (q12_lesser 999 (m (14 + 7 * k + 5) + 1)) 1 (14 + 7 * k + 6) = m (14 + 7 * k + 6) := by rw [up_off (by omega), up_off (by omega)]; exact ek 6 (by omega)
      rw [a6, ← imin_le, ← imin_le]
      refine IH _ _ hkn ⟨rfl, fun q hq => ?_, fun k' hk' => ?_, fun i hi => by rw [up_pl hi, up_pl hi, up_pl hi]; exact wf i hi⟩
      · by_cases hqk : q = k
        · subst hqk
          unfold lfH lfD lfR
          rw [if_pos hkx, if_pos hkx, if_pos hkx]
          exact ⟨by rw [up_off (by omega), up_off (by omega), up_at], by rw [up_off (by omega), up_at], up_at⟩
        · obtain ⟨b1, b2, b3⟩ := w1 q (by omega)
          rw [up_off (by omega), up_off (by omega), up_off (by omega), up_off (by omega), up_off (by omega), up_off (by omega), up_off (by omega), up_off (by omega), up_off (by omega)]
          exact ⟨b1, b2, b3⟩
      · have := hk' k (by omega)
        rw [up_off (by omega), up_off (by omega), up_off (by omega)]
        exact w2 k' (fun q hq => hk' q (by omega))
    · rw [if_neg hkx]
      have l6 := laysk (z := w) (p := k) (k := 6) (x := 0) (by omega) (by omega)
      rw [show (6 : Int32) = nI 6 from rfl, l6]
      simp only [Option.bind_some]
      rw [of3 (by omega), of4 (by omega)]
      have a3 : up w 1 (14 + 7 * k + 6) 0 1 (14 + 7 * k + 3) = m (14 + 7 * k + 3) := by rw [up_off (by omega)]; exact ek 3 (by omega)
      have a4 : up w 1 (14 + 7 * k + 6) 0 1 (14 + 7 * k + 4) = m (14 + 7 * k + 4) := by rw [up_off (by omega)]; exact ek 4 (by omega)
      have a0 : up w 1 (14 + 7 * k + 6) 0 1 (14 + 7 * k) = m (14 + 7 * k) := by rw [up_off (by omega)]; exact ek 0 (by omega)
      rw [a3, a4]
      simp only [Option.bind_some]
      have et : (if m (14 + 7 * k + 3) = 1 then (if m (14 + 7 * k + 4) = 0 then some true else some false) else some false) = some (fRn m k) := by
        unfold fRn
        rcases wS hW hkn with ⟨s1, s2⟩ | ⟨s1, s2⟩ <;> rcases wB hW hkn with ⟨b1, b2⟩ | ⟨b1, b2⟩ <;> rw [s1, s2, b1, b2] <;> rfl
      rw [et]
      simp only [Option.bind_some]
      have hrest : ∀ z : St, z 1 (14 + 7 * k) = (if fRn m k = true then imin 9 (m (14 + 7 * k) + 1) else m (14 + 7 * k)) → (∀ j, j ≠ 14 + 7 * k → z 1 j = up w 1 (14 + 7 * k + 6) 0 1 j) → (∀ i, i ≠ 1 → z i = w i) → nI (k + 1) = nI (k + 1) ∧ (∀ q, q < k + 1 → z 1 (14 + 7 * q) = lfH m x q ∧ z 1 (14 + 7 * q + 5) = lfD m x q ∧ z 1 (14 + 7 * q + 6) = lfR m x q) ∧ (∀ k', (∀ q, q < k + 1 → k' ≠ 14 + 7 * q ∧ k' ≠ 14 + 7 * q + 5 ∧ k' ≠ 14 + 7 * q + 6) → z 1 k' = u 1 k') ∧ ∀ i, i ≠ 1 → z i = u i := fun z z1 z2 z3 => by
        refine ⟨rfl, fun q hq => ?_, fun k' hk' => ?_, fun i hi => by rw [z3 i hi]; exact wf i hi⟩
        · by_cases hqk : q = k
          · subst hqk
            unfold lfH lfD lfR
            rw [if_neg hkx, if_neg hkx, if_neg hkx]
            exact ⟨z1, by rw [z2 _ (by omega), up_off (by omega)]; exact ek 5 (by omega), by rw [z2 _ (by omega), up_at]⟩
          · obtain ⟨b1, b2, b3⟩ := w1 q (by omega)
            rw [z2 _ (by omega), z2 _ (by omega), z2 _ (by omega), up_off (by omega), up_off (by omega), up_off (by omega)]
            exact ⟨b1, b2, b3⟩
        · have := hk' k (by omega)
          rw [z2 _ (by omega), up_off (by omega)]
          exact w2 k' (fun q hq => hk' q (by omega))
      cases hRk : fRn m k with
      | false =>
        rw [hRk] at hrest
        simp only [Bool.false_eq_true, if_false, Option.bind_some]
        exact IH _ _ hkn (hrest _ (by rw [a0]; rfl) (fun _ _ => rfl) (fun i hi => up_pl hi))
      | true =>
        rw [hRk] at hrest
        unfold q12_isHungrier
        simp only [if_true]
        rw [of0 (by omega)]
        simp only [Option.bind_some]
        rw [lays0 (by omega), a0, ← imin_le]
        simp only [Option.bind_some]
        exact IH _ _ hkn (hrest _ (by rw [up_at]; rfl) (fun j hj => up_off hj) (fun i hi => by rw [up_pl hi, up_pl hi]))
  · have : k = n := by
      have : ¬ k < n := fun q => hge (nI_lt q (by omega))
      omega
    subst this
    exact wo_some (wo_some ⟨w1, w2, wf⟩)

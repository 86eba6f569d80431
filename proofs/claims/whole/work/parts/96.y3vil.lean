/-! LAYER 2: A PERSON'S LINE, BY THE REFERENCE -/
def pl2 (σ : St) : Option (Int32 × St) :=
  Option.bind (if (σ 0 12) = (-1) then (Option.bind (q12_has σ 2) fun x22_ =>
  if x22_.1 = true then (some (true, x22_.2)) else (some (false, x22_.2))) else (some (false, σ))) fun t19_ =>
  if t19_.1 = true then (Option.bind (Option.bind (q12_has t19_.2 3) fun x31_ =>
  if x31_.1 = true then (some ((0 : Int32), x31_.2)) else (Option.bind (Option.bind (q12_has x31_.2 4) fun x39_ =>
  if x39_.1 = true then (some ((1 : Int32), x39_.2)) else (some ((2 : Int32), x39_.2))) fun x34_ =>
  some (x34_.1, x34_.2))) fun x26_ =>
  Option.bind (if x26_.1 = 2 then (Option.bind (q12_here x26_.2) fun x51_ =>
  Option.bind (q12_wrong x51_.2 x51_.1) fun x53_ =>
  some (x53_)) else (some (x26_.2))) fun y44_ =>
  some (x26_.1, y44_)) else (some ((2 : Int32), t19_.2))
def pl3 (σ : St) : Option (Int32 × St) :=
  Option.bind (if (σ 0 12) = (-1) then (Option.bind (q12_has σ 5) fun x63_ =>
  if x63_.1 = true then (some (true, x63_.2)) else (some (false, x63_.2))) else (some (false, σ))) fun t60_ =>
  if t60_.1 = true then (Option.bind (q12_figures t60_.2 0 9) fun x66_ =>
  some (x66_.1, x66_.2)) else (some ((0 : Int32), t60_.2))
def pl4 (σ : St) : Option (Bool × St) :=
  Option.bind (if (σ 0 12) = (-1) then (Option.bind (q12_has σ 6) fun x77_ =>
  if x77_.1 = true then (some (true, x77_.2)) else (some (false, x77_.2))) else (some (false, σ))) fun t74_ =>
  if t74_.1 = true then (some (true, t74_.2)) else (some (false, t74_.2))
def plA (x85_ : Int32) (rec90_ : Int32 → St → Option (Int32 × St)) (k93_ : Int32) (σ94_ : St) : Option (Int32 × St) :=
  if k93_ < 7 then
  Option.bind (q12_lays σ94_ x85_ k93_ 0) fun x101_ =>
  rec90_ (k93_ + 1) x101_
  else (some (k93_, σ94_))
def plB (x85_ : Int32) (rec121_ : Int32 → St → Option (Int32 × St)) (o124_ : Int32) (σ125_ : St) : Option (Int32 × St) :=
  if o124_ < 6 then
  Option.bind (sa σ125_ 1 752 ((63 + (7 * x85_)) + o124_) 5) fun σ132_ =>
  Option.bind (sa σ132_ 1 752 ((63 + (7 * o124_)) + x85_) 5) fun σ134_ =>
  rec121_ (o124_ + 1) σ134_
  else (some (o124_, σ125_))
def pl5 (σ : St) (h py sn : Int32) (st : Bool) : Option St :=
  Option.bind (ag σ 1 752 3) fun x85_ =>
  Option.bind (loop2 (plA x85_) fuelN (0 : Int32) σ) fun y87_ =>
  Option.bind (q12_lays y87_.2 x85_ 0 h) fun x105_ =>
  Option.bind (q12_lays x105_ x85_ 1 py) fun x107_ =>
  Option.bind (q12_lays x107_ x85_ 2 sn) fun x109_ =>
  Option.bind (q12_lays x109_ x85_ 3 (if st = true then 1 else 0)) fun x116_ =>
  Option.bind (loop2 (plB x85_) fuelN (0 : Int32) x116_) fun y118_ =>
  Option.bind (ag y118_.2 1 752 3) fun x138_ =>
  Option.bind (sa y118_.2 1 752 3 (x138_ + 1)) fun σ140_ =>
  some σ140_
theorem pl_eq {σ : St} {b : Int32} : q12_personLine σ b = Option.bind (Option.bind (ag σ 1 752 3) fun x6_ =>
  if x6_ = 6 then (Option.bind (q12_wrong σ b) fun x10_ =>
  some (x10_)) else (some (σ))) fun y1_ =>
  Option.bind (q12_after y1_ 1 0 9) fun x12_ =>
  Option.bind (pl2 x12_.2) fun y14_ =>
  Option.bind (pl3 y14_.2) fun x55_ =>
  Option.bind (pl4 x55_.2) fun x69_ =>
  if ¬ (x69_.2 0 12) = (-1) then (some x69_.2) else pl5 x69_.2 x12_.1 y14_.1 x55_.1 x69_.1 := by
  unfold q12_personLine pl2 pl3 pl4 pl5 plA plB
  simp only [lt_nr]
theorem pl2_no {w : St} (h : ¬ w 0 12 = -1) : pl2 w = some (2, w) := by
  unfold pl2
  rw [if_neg h]
  simp only [Option.bind_some, Bool.false_eq_true, if_false]
theorem pl3_no {w : St} (h : ¬ w 0 12 = -1) : pl3 w = some (0, w) := by
  unfold pl3
  rw [if_neg h]
  simp only [Option.bind_some, Bool.false_eq_true, if_false]
theorem pl4_no {w : St} (h : ¬ w 0 12 = -1) : pl4 w = some (false, w) := by
  unfold pl4
  rw [if_neg h]
  simp only [Option.bind_some, Bool.false_eq_true, if_false]
theorem after_no {w : St} (h : ¬ w 0 12 = -1) : q12_after w 1 0 9 = some (0, w) := by
  unfold q12_after
  rw [if_neg h]
  simp only [Option.bind_some, Bool.false_eq_true, if_false]
  rw [fig_no h]
  rfl
def Er2 (N : Nat) (w y : St) (e : Nat) : Prop := ∃ q, q ≤ N ∧ y = up (up w 0 11 (nI q)) 0 12 (nI e)
theorem Er2.no {N e : Nat} {w y : St} (h : Er2 N w y e) (he : e ≤ N) (hN : N ≤ 400) : ¬ y 0 12 = -1 := by
  obtain ⟨q, hq, rfl⟩ := h
  rw [up_at]
  exact nI_m1 (by omega)
theorem Er2.of {N e q : Nat} {w y : St} (h : Er2 N (up w 0 11 (nI q)) y e) : Er2 N w y e := by
  obtain ⟨r, hr, rfl⟩ := h
  exact ⟨r, hr, by rw [up_up]⟩
theorem pl2_ok {T : TxT} {N p : Nat} {w : St} (h : PM T N w p) (h12 : w 0 12 = -1) : (∃ e, pyP T N p = .inl e ∧ e ≤ N ∧ ∃ x y, pl2 w = some (x, y) ∧ Er2 N w y e) ∨ ∃ v p1, pyP T N p = .inr (v, p1) ∧ p1 ≤ N ∧ ∃ q, q ≤ N ∧ sk T N q = sk T N p1 ∧ pl2 w = some (nI v, up w 0 11 (nI q)) := by
  have hb := sk_b (T := T) h.2.1
  have ht := te_b (T := T) hb.2
  have hb2 := sk_b (T := T) ht.2.1
  have ht2 := te_b (T := T) hb2.2
  unfold pl2 pyP
  rw [if_pos h12, has12 h (by decide)]
  simp only [Option.bind_some]
  cases wd T N (sk T N p) 2 with
  | false =>
    simp only [Bool.false_eq_true, if_false, Option.bind_some]
    exact Or.inr ⟨2, p, rfl, h.2.1, sk T N p, hb.2, sk_sk h.2.1, rfl⟩
  | true =>
    simp only [if_true, Option.bind_some]
    have h2 : PM T N (up w 0 11 (nI (te T N (sk T N p)))) (te T N (sk T N p)) := h.of ht.2.1
    rw [has12 h2 (by decide)]
    simp only [Option.bind_some]
    cases wd T N (sk T N (te T N (sk T N p))) 3 with
    | true =>
      simp only [if_true, Option.bind_some]
      rw [if_neg (by decide), up_up]
      exact Or.inr ⟨0, _, rfl, ht2.2.1, _, ht2.2.1, rfl, rfl⟩
    | false =>
      simp only [Bool.false_eq_true, if_false, Option.bind_some]
      rw [up_up]
      have h3 : PM T N (up w 0 11 (nI (sk T N (te T N (sk T N p))))) (sk T N (te T N (sk T N p))) := h.of hb2.2
      rw [has12 h3 (by decide), sk_sk ht.2.1]
      simp only [Option.bind_some]
      cases wd T N (sk T N (te T N (sk T N p))) 4 with
      | true =>
        simp only [if_true, Option.bind_some]
        rw [if_neg (by decide), up_up]
        exact Or.inr ⟨1, _, rfl, ht2.2.1, _, ht2.2.1, rfl, rfl⟩
      | false =>
        simp only [Bool.false_eq_true, if_false, Option.bind_some, if_true]
        rw [up_up, here_ok h3, sk_sk ht.2.1]
        simp only [Option.bind_some]
        rw [up_up, wrong_ok (by rw [up_off (by decide)]; exact h12)]
        simp only [Option.bind_some]
        exact Or.inl ⟨_, rfl, hb2.2, _, _, rfl, _, hb2.2, rfl⟩
theorem pl3_ok {T : TxT} {N p : Nat} {w : St} (h : PM T N w p) (h12 : w 0 12 = -1) : (∃ e, snP T N p = .inl e ∧ e ≤ N ∧ ∃ x y, pl3 w = some (x, y) ∧ Er2 N w y e) ∨ ∃ v p1, snP T N p = .inr (v, p1) ∧ p1 ≤ N ∧ ∃ q, q ≤ N ∧ sk T N q = sk T N p1 ∧ pl3 w = some (nI v, up w 0 11 (nI q)) := by
  have hb := sk_b (T := T) h.2.1
  have ht := te_b (T := T) hb.2
  unfold pl3 snP
  rw [if_pos h12, has12 h (by decide)]
  simp only [Option.bind_some]
  cases wd T N (sk T N p) 5 with
  | false =>
    simp only [Bool.false_eq_true, if_false, Option.bind_some]
    exact Or.inr ⟨0, p, rfl, h.2.1, sk T N p, hb.2, sk_sk h.2.1, rfl⟩
  | true =>
    simp only [if_true, Option.bind_some]
    have h2 : PM T N (up w 0 11 (nI (te T N (sk T N p)))) (te T N (sk T N p)) := h.of ht.2.1
    rcases fg_d (H := 9) h2 (by rw [up_off (by decide)]; exact h12) with ⟨e, a1, a2, x, q, a3, a4⟩ | ⟨v, p1, a1, a2, a3, a4, a5⟩
    · rw [a1, a4]
      simp only [Option.bind_some]
      rw [up_up]
      exact Or.inl ⟨e, rfl, a2, x, _, rfl, q, a3, rfl⟩
    · rw [a1, a5]
      simp only [Option.bind_some]
      rw [up_up]
      exact Or.inr ⟨v, p1, rfl, a4, p1, a4, rfl, rfl⟩
theorem pl4_ok {T : TxT} {N p : Nat} {w : St} (h : PM T N w p) (h12 : w 0 12 = -1) : ∃ q, q ≤ N ∧ sk T N q = sk T N (if wd T N (sk T N p) 6 = true then te T N (sk T N p) else p) ∧ pl4 w = some (wd T N (sk T N p) 6, up w 0 11 (nI q)) := by
  have hb := sk_b (T := T) h.2.1
  have ht := te_b (T := T) hb.2
  unfold pl4
  rw [if_pos h12, has12 h (by decide)]
  simp only [Option.bind_some]
  cases wd T N (sk T N p) 6 with
  | false =>
    simp only [Bool.false_eq_true, if_false, Option.bind_some]
    exact ⟨sk T N p, hb.2, sk_sk h.2.1, rfl⟩
  | true =>
    simp only [if_true, Option.bind_some]
    exact ⟨_, ht.2.1, rfl, rfl⟩
theorem aft_ok {T : TxT} {N p : Nat} {w : St} (h : PM T N w p) (h12 : w 0 12 = -1) : (∃ e, (if wd T N (sk T N p) 1 = true then nuP T N (te T N (sk T N p)) 9 else .inl (sk T N p)) = .inl e ∧ e ≤ N ∧ ∃ x y, q12_after w 1 0 9 = some (x, y) ∧ Er2 N w y e) ∨ ∃ v p1, wd T N (sk T N p) 1 = true ∧ nuP T N (te T N (sk T N p)) 9 = .inr (v, p1) ∧ p1 ≤ N ∧ q12_after w 1 0 9 = some (nI v, up w 0 11 (nI p1)) := by
  have hb := sk_b (T := T) h.2.1
  have ht := te_b (T := T) hb.2
  have hN := h.1.1
  unfold q12_after
  rw [if_pos h12, has12 h (by decide)]
  simp only [Option.bind_some]
  cases wd T N (sk T N p) 1 with
  | false =>
    simp only [Bool.false_eq_true, if_false, if_true, Option.bind_some]
    rw [up_at, wrong_ok (by rw [up_off (by decide)]; exact h12)]
    simp only [Option.bind_some]
    rw [fig_no (by rw [up_at]; exact nI_m1 (by omega))]
    exact Or.inl ⟨_, rfl, hb.2, _, _, rfl, _, hb.2, rfl⟩
  | true =>
    simp only [if_true, Option.bind_some, Bool.false_eq_true, if_false]
    have h2 : PM T N (up w 0 11 (nI (te T N (sk T N p)))) (te T N (sk T N p)) := h.of ht.2.1
    rcases fg_d (H := 9) h2 (by rw [up_off (by decide)]; exact h12) with ⟨e, a1, a2, x, q, a3, a4⟩ | ⟨v, p1, a1, a2, a3, a4, a5⟩
    · rw [a4]
      simp only [Option.bind_some]
      rw [up_up]
      exact Or.inl ⟨e, a1, a2, x, _, rfl, q, a3, rfl⟩
    · rw [a5]
      simp only [Option.bind_some]
      rw [up_up]
      exact Or.inr ⟨v, p1, trivial, a1, a4, rfl⟩
/-- what the reference has of a person -/
def PerM (m m' : Nat → Int32) (n h py sn : Nat) (st : Bool) : Prop := m' 3 = nI (n + 1) ∧ m' (14 + 7 * n) = nI h ∧ m' (14 + 7 * n + 1) = nI py ∧ m' (14 + 7 * n + 2) = nI sn ∧ m' (14 + 7 * n + 3) = (if st = true then 1 else 0) ∧ m' (14 + 7 * n + 4) = 0 ∧ m' (14 + 7 * n + 5) = 0 ∧ m' (14 + 7 * n + 6) = 0 ∧ (∀ o, o < 6 → m' (63 + 7 * n + o) = 5 ∧ m' (63 + 7 * o + n) = 5) ∧ ∀ k, k ≠ 3 → k < 14 + 7 * n ∨ 21 + 7 * n ≤ k → (∀ o, o < 6 → k ≠ 63 + 7 * n + o ∧ k ≠ 63 + 7 * o + n) → m' k = m k
theorem pl5_ok {w : St} {n h py sn : Nat} {st : Bool} (hn : n < 6) (h3 : w 1 3 = nI n) : ∃ y, pl5 w (nI h) (nI py) (nI sn) st = some y ∧ PerM (w 1) (y 1) n h py sn st ∧ ∀ i, i ≠ 1 → y i = w i := by
  unfold pl5
  rw [show ag w 1 752 3 = some (w 1 3) from ag_nI (k := 3) rfl (by decide) (by decide), h3]
  simp only [Option.bind_some]
  have hA : Wo (loop2 (plA (nI n)) fuelN 0 w) (fun y => (∀ j, j < 7 → y.2 1 (14 + 7 * n + j) = 0) ∧ (∀ k, k < 14 + 7 * n ∨ 21 + 7 * n ≤ k → y.2 1 k = w 1 k) ∧ ∀ i, i ≠ 1 → y.2 i = w i) := by
    refine lpW2 7 (fun k a s => a = nI k ∧ (∀ j, j < k → s 1 (14 + 7 * n + j) = 0) ∧ (∀ k, k < 14 + 7 * n ∨ 21 + 7 * n ≤ k → s 1 k = w 1 k) ∧ ∀ i, i ≠ 1 → s i = w i) ?_ fuelN 0 0 w (Nat.zero_le _) (fuel_ok (by omega)) ⟨rfl, fun j hj => absurd hj (Nat.not_lt_zero _), fun _ _ => rfl, fun _ _ => rfl⟩
    rintro rec k a s hk ⟨rfl, s1, s2, s3⟩ IH
    unfold plA
    by_cases hk7 : k < 7
    · rw [if_pos (show nI k < 7 from nI_lt (b := 7) hk7 (by decide)), laysk (by omega) hk7]
      simp only [Option.bind_some]
      rw [nI_1]
      refine IH _ _ hk7 ⟨rfl, fun j hj => ?_, fun q hq => ?_, fun i hi => by rw [up_pl hi]; exact s3 i hi⟩
      · by_cases hjk : j = k
        · rw [hjk, up_at]
        · rw [up_off (by omega)]; exact s1 j (by omega)
      · rw [up_off (by omega)]; exact s2 q hq
    · rw [if_neg (show ¬ nI k < 7 from fun q => hk7 ((nI_ltI (b := 7) (by omega) (by decide)).mp q))]
      have : k = 7 := by omega
      subst this
      exact wo_some ⟨s1, s2, s3⟩
  obtain ⟨y1, e1, a1, a2, a3⟩ := hA
  rw [e1]
  simp only [Option.bind_some]
  rw [lays0 (by omega)]
  simp only [Option.bind_some]
  rw [show ∀ z : St, q12_lays z (nI n) 1 (nI py) = some (up z 1 (14 + 7 * n + 1) (nI py)) from fun z => laysk (k := 1) (by omega) (by decide)]
  simp only [Option.bind_some]
  rw [show ∀ z : St, q12_lays z (nI n) 2 (nI sn) = some (up z 1 (14 + 7 * n + 2) (nI sn)) from fun z => laysk (k := 2) (by omega) (by decide)]
  simp only [Option.bind_some]
  rw [show ∀ (z : St) (x : Int32), q12_lays z (nI n) 3 x = some (up z 1 (14 + 7 * n + 3) x) from fun z x => laysk (k := 3) (by omega) (by decide)]
  simp only [Option.bind_some]
  generalize hz : up (up (up (up y1.2 1 (14 + 7 * n) (nI h)) 1 (14 + 7 * n + 1) (nI py)) 1 (14 + 7 * n + 2) (nI sn)) 1 (14 + 7 * n + 3) (if st = true then (1 : Int32) else 0) = z
  have z0 : z 1 (14 + 7 * n) = nI h := by rw [← hz, up_off (by omega), up_off (by omega), up_off (by omega), up_at]
  have z1 : z 1 (14 + 7 * n + 1) = nI py := by rw [← hz, up_off (by omega), up_off (by omega), up_at]
  have z2 : z 1 (14 + 7 * n + 2) = nI sn := by rw [← hz, up_off (by omega), up_at]
  have z3 : z 1 (14 + 7 * n + 3) = (if st = true then 1 else 0) := by rw [← hz, up_at]
  have z4 : ∀ j, 4 ≤ j → j < 7 → z 1 (14 + 7 * n + j) = 0 := fun j h4 h7 => by rw [← hz, up_off (by omega), up_off (by omega), up_off (by omega), up_off (by omega)]; exact a1 j h7
  have z5 : ∀ k, k < 14 + 7 * n ∨ 21 + 7 * n ≤ k → z 1 k = w 1 k := fun k hk => by rw [← hz, up_off (by omega), up_off (by omega), up_off (by omega), up_off (by omega)]; exact a2 k hk
  have z6 : ∀ i, i ≠ 1 → z i = w i := fun i hi => by rw [← hz, up_pl hi, up_pl hi, up_pl hi, up_pl hi]; exact a3 i hi
  have hB : Wo (loop2 (plB (nI n)) fuelN 0 z) (fun y => (∀ o, o < 6 → y.2 1 (63 + 7 * n + o) = 5 ∧ y.2 1 (63 + 7 * o + n) = 5) ∧ (∀ k, (∀ o, o < 6 → k ≠ 63 + 7 * n + o ∧ k ≠ 63 + 7 * o + n) → y.2 1 k = z 1 k) ∧ ∀ i, i ≠ 1 → y.2 i = z i) := by
    refine lpW2 6 (fun k a s => a = nI k ∧ (∀ o, o < k → s 1 (63 + 7 * n + o) = 5 ∧ s 1 (63 + 7 * o + n) = 5) ∧ (∀ k, (∀ o, o < 6 → k ≠ 63 + 7 * n + o ∧ k ≠ 63 + 7 * o + n) → s 1 k = z 1 k) ∧ ∀ i, i ≠ 1 → s i = z i) ?_ fuelN 0 0 z (Nat.zero_le _) (fuel_ok (by omega)) ⟨rfl, fun j hj => absurd hj (Nat.not_lt_zero _), fun _ _ => rfl, fun _ _ => rfl⟩
    rintro rec k a s hk ⟨rfl, s1, s2, s3⟩ IH
    unfold plB
    by_cases hk6 : k < 6
    · rw [if_pos (show nI k < 6 from nI_lt (b := 6) hk6 (by decide)), ix_w, ix_w, sa_nI (k := 63 + 7 * n + k) rfl (by omega) (by decide)]
      simp only [Option.bind_some]
      rw [sa_nI (k := 63 + 7 * k + n) rfl (by omega) (by decide)]
      simp only [Option.bind_some]
      rw [nI_1]
      have h5 : ∀ q, up (up s 1 (63 + 7 * n + k) 5) 1 (63 + 7 * k + n) 5 1 q = if q = 63 + 7 * k + n ∨ q = 63 + 7 * n + k then 5 else s 1 q := fun q => by
        by_cases q1 : q = 63 + 7 * k + n
        · rw [q1, up_at, if_pos (Or.inl rfl)]
        · rw [up_off q1]
          by_cases q2 : q = 63 + 7 * n + k
          · rw [q2, up_at, if_pos (Or.inr rfl)]
          · rw [up_off q2, if_neg (by omega)]
      refine IH _ _ hk6 ⟨rfl, fun o ho => ?_, fun q hq => ?_, fun i hi => by rw [up_pl hi, up_pl hi]; exact s3 i hi⟩
      · rw [h5, h5]
        by_cases hok : o = k
        · subst hok
          rw [if_pos (Or.inr rfl), if_pos (Or.inl rfl)]
          exact ⟨rfl, rfl⟩
        · have := s1 o (by omega)
          constructor
          · split
            · rfl
            · exact this.1
          · split
            · rfl
            · exact this.2
      · rw [h5, if_neg (by have := hq k hk6; omega)]; exact s2 q hq
    · rw [if_neg (show ¬ nI k < 6 from fun q => hk6 ((nI_ltI (b := 6) (by omega) (by decide)).mp q))]
      have : k = 6 := by omega
      subst this
      exact wo_some ⟨s1, s2, s3⟩
  obtain ⟨y2, e2, b1, b2, b3⟩ := hB
  rw [e2]
  simp only [Option.bind_some]
  have y23 : y2.2 1 3 = nI n := by rw [b2 3 (fun o ho => by omega), z5 3 (by omega)]; exact h3
  rw [show ag y2.2 1 752 3 = some (y2.2 1 3) from ag_nI (k := 3) rfl (by decide) (by decide), y23]
  simp only [Option.bind_some]
  rw [nI_1, show sa y2.2 1 752 3 (nI (n + 1)) = some (up y2.2 1 3 (nI (n + 1))) from sa_nI (k := 3) rfl (by decide) (by decide)]
  refine ⟨_, rfl, ⟨up_at, ?_, ?_, ?_, ?_, ?_, ?_, ?_, fun o ho => ?_, fun k k3 k1 k2 => ?_⟩, fun i hi => by rw [up_pl hi, b3 i hi, z6 i hi]⟩
  · rw [up_off (by omega), b2 _ (fun o ho => by omega)]; exact z0
  · rw [up_off (by omega), b2 _ (fun o ho => by omega)]; exact z1
  · rw [up_off (by omega), b2 _ (fun o ho => by omega)]; exact z2
  · rw [up_off (by omega), b2 _ (fun o ho => by omega)]; exact z3
  · rw [up_off (by omega), b2 _ (fun o ho => by omega)]; exact z4 4 (by omega) (by omega)
  · rw [up_off (by omega), b2 _ (fun o ho => by omega)]; exact z4 5 (by omega) (by omega)
  · rw [up_off (by omega), b2 _ (fun o ho => by omega)]; exact z4 6 (by omega) (by omega)
  · rw [up_off (by omega), up_off (by omega)]; exact b1 o ho
  · rw [up_off k3, b2 k k2, z5 k k1]
def PerQ (T : TxT) (N n : Nat) (w : St) (r : PerR) (x : Option St) : Prop := match r with
  | .inl e => e ≤ N ∧ ∃ y, x = some y ∧ Er2 N w y e
  | .inr (h, py, sn, st, p1) => ∃ q y, q ≤ N ∧ sk T N q = sk T N p1 ∧ x = some y ∧ PerM (w 1) (y 1) n h py sn st ∧ ∀ i, i ≠ 1 → y i = up w 0 11 (nI q) i
theorem per_M {T : TxT} {N n p : Nat} {w : St} {b : Int32} (hn : n < 6) (h : PM T N w p) (h12 : w 0 12 = -1) (h3 : w 1 3 = nI n) : PerQ T N n w (perP T N p) (q12_personLine w b) := by
  have hN := h.1.1
  rw [pl_eq, show ag w 1 752 3 = some (w 1 3) from ag_nI (k := 3) rfl (by decide) (by decide), h3]
  simp only [Option.bind_some]
  rw [if_neg (show ¬ nI n = 6 from nIe (o := 6) (by omega) (by decide) (by omega))]
  simp only [Option.bind_some]
  have fail : ∀ (x : Int32) (y : St) (e : Nat), e ≤ N → Er2 N w y e → (Option.bind (pl2 y) fun y14_ =>
  Option.bind (pl3 y14_.2) fun x55_ =>
  Option.bind (pl4 x55_.2) fun x69_ =>
  if ¬ (x69_.2 0 12) = (-1) then (some x69_.2) else pl5 x69_.2 x y14_.1 x55_.1 x69_.1) = some y := fun x y e he hE => by
    have := hE.no he hN
    rw [pl2_no this]
    simp only [Option.bind_some]
    rw [pl3_no this]
    simp only [Option.bind_some]
    rw [pl4_no this]
    simp only [Option.bind_some]
    rw [if_pos this]
  unfold perP
  rcases aft_ok h h12 with ⟨e, a1, a2, x, y, a3, a4⟩ | ⟨v, p1, a1, a2, a3, a4⟩
  · rw [a3]
    simp only [Option.bind_some]
    rw [fail x y e a2 a4]
    by_cases hw : wd T N (sk T N p) 1 = true
    · rw [if_pos hw] at a1 ⊢
      rw [a1]
      exact ⟨a2, y, rfl, a4⟩
    · rw [if_neg hw] at a1 ⊢
      cases a1
      exact ⟨a2, y, rfl, a4⟩
  · rw [a4, if_pos a1, a2]
    simp only [Option.bind_some]
    have h1 : PM T N (up w 0 11 (nI p1)) p1 := h.of a3
    have g1 : up w 0 11 (nI p1) 0 12 = -1 := by rw [up_off (by decide)]; exact h12
    rcases pl2_ok h1 g1 with ⟨e, b1, b2, x, y, b3, b4⟩ | ⟨v2, p2, b1, b2, q2, b3, b4, b5⟩
    · rw [b1, b3]
      simp only [Option.bind_some]
      have hE := b4.of
      have no := hE.no b2 hN
      rw [pl3_no no]
      simp only [Option.bind_some]
      rw [pl4_no no]
      simp only [Option.bind_some]
      rw [if_pos no]
      exact ⟨b2, y, rfl, hE⟩
    · rw [b1, b5, up_up]
      simp only [Option.bind_some]
      have h2 : PM T N (up w 0 11 (nI q2)) q2 := h.of b3
      have g2 : up w 0 11 (nI q2) 0 12 = -1 := by rw [up_off (by decide)]; exact h12
      have hs : snP T N q2 = .inl 0 ∨ True := Or.inr trivial
      rcases pl3_ok h2 g2 with ⟨e, c1, c2, x, y, c3, c4⟩ | ⟨v3, p3, c1, c2, q3, c3, c4, c5⟩
      · have c1' : snP T N p2 = .inl e := by
          unfold snP at c1 ⊢
          rw [b4] at c1
          split at c1
          · next hw => rw [if_pos hw]; exact c1
          · cases c1
        rw [c1', c3]
        simp only [Option.bind_some]
        have hE := c4.of
        have no := hE.no c2 hN
        rw [pl4_no no]
        simp only [Option.bind_some]
        rw [if_pos no]
        exact ⟨c2, y, rfl, hE⟩
      · have c1' : ∃ p3', snP T N p2 = .inr (v3, p3') ∧ sk T N p3' = sk T N p3 := by
          unfold snP at c1 ⊢
          rw [b4] at c1
          split at c1
          · next hw => rw [if_pos hw]; exact ⟨p3, c1, rfl⟩
          · next hw =>
            cases c1
            rw [if_neg hw]
            exact ⟨p2, rfl, b4.symm⟩
        obtain ⟨p3', c6, c7⟩ := c1'
        rw [c6, c5, up_up]
        simp only [Option.bind_some]
        have h4 : PM T N (up w 0 11 (nI q3)) q3 := h.of c3
        have g4 : up w 0 11 (nI q3) 0 12 = -1 := by rw [up_off (by decide)]; exact h12
        obtain ⟨q4, d1, d2, d3⟩ := pl4_ok h4 g4
        rw [d3, up_up]
        simp only [Option.bind_some]
        rw [if_neg (show ¬ ¬ up w 0 11 (nI q4) 0 12 = -1 from fun q => q (by rw [up_off (by decide)]; exact h12))]
        have e46 : sk T N q3 = sk T N p3' := by rw [c4, c7]
        rw [e46] at d2 d3 ⊢
        obtain ⟨y, ey, y1, y2⟩ := pl5_ok (w := up w 0 11 (nI q4)) (h := v) (py := v2) (sn := v3) (st := wd T N (sk T N p3') 6) hn (by rw [up_pl (by decide)]; exact h3)
        rw [ey]
        rw [up_pl (by decide)] at y1
        cases hw : wd T N (sk T N p3') 6 with
        | true =>
          rw [hw] at y1 d2
          rw [if_pos rfl] at d2
          simp only [if_true]
          exact ⟨q4, y, d1, d2, rfl, y1, y2⟩
        | false =>
          rw [hw] at y1 d2
          rw [if_neg (by decide), e46] at d2
          simp only [Bool.false_eq_true, if_false]
          exact ⟨q4, y, d1, d2, rfl, y1, y2⟩

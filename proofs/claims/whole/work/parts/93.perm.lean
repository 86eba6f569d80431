/-! LAYER 2: ORDERS OF A SET, ONE AFTER THE OTHER -/
def prm : Nat → Nat → List (List Nat)
  | 0, _ => [[]]
  | t + 1, S => ((List.range 6).filter (fun r => S.testBit r)).flatMap (fun r => (prm t (wout S r)).map (fun l => r :: l))
def pc6 (S : Nat) : Nat := cn (fun k => S.testBit k) 6
def fiN (l : Nat → Nat) : Nat → Nat
  | 0 => 0
  | j + 1 => if l (j + 1) < l j then fiN l j else j + 1
def fkN (l : Nat → Nat) (x : Nat) : Nat → Nat
  | 0 => 0
  | j + 1 => if l (j + 1) < x then fkN l x j else j + 1
theorem fi_s {l : Nat → Nat} {j : Nat} : fiN l (j + 1) = if l (j + 1) < l j then fiN l j else j + 1 := rfl
theorem fk_s {l : Nat → Nat} {x j : Nat} : fkN l x (j + 1) = if l (j + 1) < x then fkN l x j else j + 1 := rfl
def swN (l : Nat → Nat) (a b : Nat) : Nat → Nat := fun k => if k = b then l a else if k = a then l b else l k
def rvN : Nat → Nat → Nat → (Nat → Nat) → Nat → Nat
  | 0, _, _, l => l
  | t + 1, a, b, l => if a < b then rvN t (a + 1) (b - 1) (swN l a b) else l
def nxN (c : Nat) (l : Nat → Nat) : Option (Nat → Nat) := if fiN l (c - 1) = 0 then none else some (rvN 6 (fiN l (c - 1)) (c - 1) (swN l (fiN l (c - 1) - 1) (fkN l (l (fiN l (c - 1) - 1)) (c - 1))))
def ofL (l : List Nat) : Nat → Nat := fun k => l.getD k 0
def eqL (c : Nat) (f : Nat → Nat) (l : List Nat) : Bool := (List.range c).all (fun k => f k == ofL l k)
def chP (c : Nat) : List (List Nat) → Bool
  | [] => true
  | [l] => (nxN c (ofL l)).isNone
  | l :: l2 :: r => (match nxN c (ofL l) with
    | none => false
    | some f => eqL c f l2) && chP c (l2 :: r)
def lfN (S : Nat) : Nat → Nat
  | 0 => S
  | i + 1 => wout (lfN S i) (lw (lfN S i))
def hdN (S : Nat) : Bool := match prm (pc6 S) S with
  | [] => false
  | l :: _ => (List.range (pc6 S)).all (fun i => decide (0 < lfN S i) && (ofL l i == lw (lfN S i)))
def inN (S c : Nat) : Bool := (prm c S).all (fun l => (l.length == c) && l.all (fun r => S.testBit r && decide (r < 6)))
theorem prm_ch : ∀ S, S < 64 → 0 < S → chP (pc6 S) (prm (pc6 S) S) = true := by decide +kernel
theorem prm_hd : ∀ S, S < 64 → hdN S = true := by decide +kernel
theorem prm_in : ∀ S, S < 64 → inN S (pc6 S) = true := by decide +kernel
theorem prm_len : ∀ S, S < 64 → (prm (pc6 S) S).length ≤ 720 := by decide +kernel
theorem sub2 {c : Nat} (h : 1 ≤ c) : nI c - 2 = nI (c - 1) - 1 := by
  have := nI_pred (c - 1)
  rw [show c - 1 + 1 = c from by omega] at this
  rw [← this, Int32.sub_eq_add_neg, Int32.sub_eq_add_neg, Int32.sub_eq_add_neg, Int32.add_assoc]
  rfl
theorem swaps_ok {w : St} {a b c : Nat} {l : Nat → Nat} (hc : c ≤ 6) (ha : a < c) (hb : b < c) (hl : ∀ k, k < c → w 8 k = nI (l k)) : Wo (q12_swaps w (nI a) (nI b)) (fun w' => (∀ k, k < c → w' 8 k = nI (swN l a b k)) ∧ ∀ i, i ≠ 8 → w' i = w i) := by
  unfold q12_swaps
  rw [ag_nI (k := a) rfl (by omega) (by decide), ag_nI (k := b) rfl (by omega) (by decide)]
  simp only [Option.bind_some]
  rw [sa_nI (k := a) rfl (by omega) (by decide)]
  simp only [Option.bind_some]
  rw [sa_nI (k := b) rfl (by omega) (by decide)]
  refine wo_some ⟨fun k hk => ?_, fun i hi => by rw [up_pl hi, up_pl hi]⟩
  unfold swN
  by_cases h1 : k = b
  · subst h1; rw [up_at, if_pos rfl]; exact hl a ha
  · rw [up_off h1, if_neg h1]
    by_cases h2 : k = a
    · subst h2; rw [up_at, if_pos rfl]; exact hl b hb
    · rw [up_off h2, if_neg h2]; exact hl k hk
theorem fk_ge {l : Nat → Nat} {i : Nat} : ∀ j, i ≤ j → i ≤ fkN l (l i) j ∧ fkN l (l i) j ≤ j
  | 0, h => ⟨h, Nat.le_refl _⟩
  | j + 1, h => by
    unfold fkN
    by_cases hc : l (j + 1) < l i
    · rw [if_pos hc]
      have hne : i ≠ j + 1 := fun e => by rw [e] at hc; omega
      have := fk_ge (l := l) (i := i) j (by omega)
      omega
    · rw [if_neg hc]; omega
theorem fi_le {l : Nat → Nat} : ∀ j, fiN l j ≤ j
  | 0 => Nat.le_refl _
  | j + 1 => by
    unfold fiN
    have := fi_le (l := l) j
    split <;> omega
theorem rv_stop {t a b : Nat} {l : Nat → Nat} (h : ¬ a < b) : rvN t a b l = l := by
  cases t with
  | zero => rfl
  | succ t => unfold rvN; rw [if_neg h]
theorem next_ok {w : St} {c : Nat} {l : Nat → Nat} (h1 : 1 ≤ c) (hc : c ≤ 6) (hl6 : ∀ k, k < c → l k < 6) (hl : ∀ k, k < c → w 8 k = nI (l k)) : Wo (q12_nextOrder w (nI c)) (fun r => (∀ i, i ≠ 8 → r.2 i = w i) ∧ ((nxN c l = none ∧ r.1 = false ∧ r.2 = w) ∨ ∃ l', nxN c l = some l' ∧ r.1 = true ∧ ∀ k, k < c → r.2 8 k = nI (l' k))) := by
  unfold q12_nextOrder
  dsimp only [lt]
  rw [sub2 h1]
  have hag : ∀ k, k < c → ag w 8 7 (nI k) = some (nI (l k)) := fun k hk => by rw [ag_nI (k := k) rfl (by omega) (by decide), hl k hk]
  refine wo_bind (wo_mono (Q := fun y => y = nI (fiN l (c - 1)) - 1) ?_ ?_)
  · refine lpW1 (c - 1) (fun t i => i = nI (c - 1 - t) - 1 ∧ fiN l (c - 1) = fiN l (c - 1 - t)) ?_ fuelN 0 _ (Nat.zero_le _) (fuel_ok (by omega)) ⟨rfl, rfl⟩
    rintro rec t i ht ⟨rfl, hf⟩ IH
    by_cases hj : c - 1 - t = 0
    · rw [hj] at hf ⊢
      rw [if_neg (show ¬ (0 : Int32) ≤ nI 0 - 1 by decide)]
      simp only [Option.bind_some, Bool.false_eq_true, if_false]
      exact wo_some (by rw [hf]; rfl)
    · obtain ⟨j, hj2⟩ : ∃ j, c - 1 - t = j + 1 := ⟨c - 1 - t - 1, by omega⟩
      rw [hj2] at hf ⊢
      rw [nI_pred, if_pos (show (0 : Int32) ≤ nI j from Int32.not_lt.mp (nI_pos (by omega))), nI_1, hag j (by omega), hag (j + 1) (by omega)]
      simp only [Option.bind_some]
      have a1 := hl6 j (by omega)
      have a2 := hl6 (j + 1) (by omega)
      have e1 : nI (l (j + 1)) < nI (l j) ↔ l (j + 1) < l j := nI_ltI (by omega) (by omega)
      rw [fi_s] at hf
      by_cases hlt : l (j + 1) < l j
      · rw [if_pos hlt] at hf
        rw [if_pos (e1.mpr hlt)]
        simp only [Option.bind_some, if_true]
        refine IH _ (by omega) ⟨?_, ?_⟩
        · rw [show c - 1 - (t + 1) = j from by omega, Int32.sub_eq_add_neg]
        · rw [show c - 1 - (t + 1) = j from by omega]; exact hf
      · rw [if_neg hlt] at hf
        rw [if_neg (fun q => hlt (e1.mp q))]
        simp only [Option.bind_some, Bool.false_eq_true, if_false]
        refine wo_some ?_
        have hf' : fiN l (c - 1) = j + 1 := hf
        rw [hf', nI_pred]
  · rintro y rfl
    have hfi := fi_le (l := l) (c - 1)
    by_cases h0 : fiN l (c - 1) = 0
    · rw [h0, if_pos (show nI 0 - 1 < 0 by decide)]
      exact wo_some ⟨fun _ _ => rfl, Or.inl ⟨by unfold nxN; rw [if_pos h0], rfl, rfl⟩⟩
    · obtain ⟨i, hi⟩ : ∃ i, fiN l (c - 1) = i + 1 := ⟨fiN l (c - 1) - 1, by omega⟩
      rw [hi, nI_pred, if_neg (nI_pos (by omega))]
      have hnx : nxN c l = some (rvN 6 (i + 1) (c - 1) (swN l i (fkN l (l i) (c - 1)))) := by
        unfold nxN
        rw [if_neg h0, hi]
        rfl
      obtain ⟨g1, g2⟩ := fk_ge (l := l) (i := i) (c - 1) (by omega)
      have ec : nI c - 1 = nI (c - 1) := by
        have := nI_pred (c - 1)
        rw [show c - 1 + 1 = c from by omega] at this
        exact this
      rw [ec]
      refine wo_bind (wo_mono (Q := fun y => y = nI (fkN l (l i) (c - 1))) ?_ ?_)
      · refine lpW1 c (fun t k => k = nI (c - 1 - t) ∧ fkN l (l i) (c - 1) = fkN l (l i) (c - 1 - t) ∧ i ≤ c - 1 - t) ?_ fuelN 0 _ (Nat.zero_le _) (fuel_ok (by omega)) ⟨rfl, rfl, by omega⟩
        rintro rec t k ht ⟨rfl, hf, hge⟩ IH
        rw [hag _ (by omega), hag i (by omega)]
        simp only [Option.bind_some]
        have a1 := hl6 (c - 1 - t) (by omega)
        have a2 := hl6 i (by omega)
        have e1 : nI (l (c - 1 - t)) < nI (l i) ↔ l (c - 1 - t) < l i := nI_ltI (by omega) (by omega)
        by_cases hlt : l (c - 1 - t) < l i
        · have hne : i ≠ c - 1 - t := fun e => by rw [← e] at hlt; omega
          obtain ⟨j, hj2⟩ : ∃ j, c - 1 - t = j + 1 := ⟨c - 1 - t - 1, by omega⟩
          rw [if_pos (e1.mpr hlt)]
          rw [hj2] at hf hlt ⊢
          rw [fk_s] at hf
          rw [if_pos hlt] at hf
          refine IH _ (by omega) ⟨?_, ?_, by omega⟩
          · rw [show c - 1 - (t + 1) = j from by omega, ← Int32.sub_eq_add_neg, nI_pred]
          · rw [show c - 1 - (t + 1) = j from by omega]; exact hf
        · rw [if_neg (fun q => hlt (e1.mp q))]
          refine wo_some ?_
          rw [hf]
          cases hj : c - 1 - t with
          | zero => rfl
          | succ j =>
            rw [hj] at hlt
            unfold fkN
            rw [if_neg hlt]
      · rintro y rfl
        obtain ⟨w1, ew1, q1, q2⟩ := swaps_ok (w := w) (a := i) (b := fkN l (l i) (c - 1)) hc (by omega) (by omega) hl
        refine wo_st ew1 ?_
        rw [nI_1]
        refine wo_bind ?_
        refine lpW3 6 (fun t a b s => ∃ l' : Nat → Nat, a = nI (i + 1 + t) ∧ b = nI (c - 1 - t) ∧ i + 1 + t ≤ c - t ∧ t ≤ c - 1 ∧ rvN (6 - t) (i + 1 + t) (c - 1 - t) l' = rvN 6 (i + 1) (c - 1) (swN l i (fkN l (l i) (c - 1))) ∧ (∀ k, k < c → s 8 k = nI (l' k)) ∧ ∀ i, i ≠ 8 → s i = w i) ?_ fuelN 0 _ _ _ (Nat.zero_le _) (fuel_ok (by omega)) ⟨swN l i (fkN l (l i) (c - 1)), rfl, rfl, by omega, by omega, rfl, q1, q2⟩
        rintro rec t a b s ht ⟨l', rfl, rfl, b1, b2, hrv, sl, sf⟩ IH
        have e1 : nI (i + 1 + t) < nI (c - 1 - t) ↔ i + 1 + t < c - 1 - t := nI_ltI (by omega) (by omega)
        by_cases hlt : i + 1 + t < c - 1 - t
        · rw [if_pos (e1.mpr hlt)]
          obtain ⟨s1, es1, r1, r2⟩ := swaps_ok (w := s) (a := i + 1 + t) (b := c - 1 - t) hc (by omega) (by omega) sl
          refine wo_st es1 ?_
          rw [nI_1]
          refine IH _ _ _ (by omega) ⟨swN l' (i + 1 + t) (c - 1 - t), rfl, ?_, by omega, by omega, ?_, r1, fun j hj => by rw [r2 j hj]; exact sf j hj⟩
          · rw [← Int32.sub_eq_add_neg]
            have := nI_pred (c - 1 - (t + 1))
            rw [show c - 1 - (t + 1) + 1 = c - 1 - t from by omega] at this
            exact this
          · rw [← hrv]
            obtain ⟨q, hq⟩ : ∃ q, 6 - t = q + 1 := ⟨6 - t - 1, by omega⟩
            rw [hq, show 6 - (t + 1) = q from by omega]
            conv => rhs; unfold rvN
            rw [if_pos hlt, show c - 1 - (t + 1) = c - 1 - t - 1 from by omega, show i + 1 + (t + 1) = i + 1 + t + 1 from by omega]
        · rw [if_neg (fun q => hlt (e1.mp q))]
          rw [rv_stop hlt] at hrv
          refine wo_some (wo_some ⟨sf, Or.inr ⟨_, hnx, rfl, fun k hk => ?_⟩⟩)
          rw [← hrv]
          exact sl k hk

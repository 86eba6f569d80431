/-! LAYER 2: THE TEXT, BY TOKENS -/
abbrev TxT : Type := Nat → Int32
def kdI (x : Int32) : Nat := if 97 ≤ x ∧ x ≤ 122 then 1 else if 48 ≤ x ∧ x ≤ 57 then 2 else 3
theorem kind_ok (x : Int32) : q8_kindOf x = nI (kdI x) := by
  unfold q8_kindOf kdI
  split
  · rfl
  · split <;> rfl
theorem kdI_b (x : Int32) : 1 ≤ kdI x ∧ kdI x ≤ 3 := by
  unfold kdI
  split
  · omega
  · split <;> omega
theorem kdI_1 (x : Int32) : kdI x = 1 ↔ 97 ≤ x ∧ x ≤ 122 := by
  unfold kdI
  by_cases h : 97 ≤ x ∧ x ≤ 122
  · rw [if_pos h]; exact ⟨fun _ => h, fun _ => rfl⟩
  · rw [if_neg h]
    exact ⟨fun q => by split at q <;> omega, fun q => absurd q h⟩
theorem kdI_2 (x : Int32) : kdI x = 2 ↔ 48 ≤ x ∧ x ≤ 57 := by
  unfold kdI
  by_cases h : 97 ≤ x ∧ x ≤ 122
  · rw [if_pos h]
    refine ⟨fun q => by omega, fun q => absurd (Int32.le_trans h.1 q.2) (by decide)⟩
  · rw [if_neg h]
    by_cases h2 : 48 ≤ x ∧ x ≤ 57
    · rw [if_pos h2]; exact ⟨fun _ => h2, fun _ => rfl⟩
    · rw [if_neg h2]; exact ⟨fun q => by omega, fun q => absurd q h2⟩
/-- going on while something holds -/
def goF (P : Nat → Bool) : Nat → Nat → Nat
  | 0, p => p
  | f + 1, p => if P p = true then goF P f (p + 1) else p
def go (P : Nat → Bool) (N p : Nat) : Nat := goF P (N - p) p
theorem go_end {P : Nat → Bool} {N p : Nat} (h : N ≤ p) : go P N p = p := by
  unfold go
  rw [show N - p = 0 from by omega]
  rfl
theorem go_s {P : Nat → Bool} {N p : Nat} (h : p < N) (hp : P p = true) : go P N p = go P N (p + 1) := by
  unfold go
  rw [show N - p = (N - (p + 1)) + 1 from by omega]
  show (if P p = true then _ else _) = _
  rw [if_pos hp]
theorem go_n {P : Nat → Bool} {N p : Nat} (hp : ¬ P p = true) : go P N p = p := by
  unfold go
  cases N - p with
  | zero => rfl
  | succ f => show (if P p = true then _ else _) = _; rw [if_neg hp]
theorem go_b {P : Nat → Bool} {N : Nat} : ∀ (f p : Nat), N - p = f → p ≤ N → p ≤ go P N p ∧ go P N p ≤ N ∧ (go P N p < N → ¬ P (go P N p) = true)
  | 0, p, hf, hp => by
    rw [go_end (by omega)]
    exact ⟨by omega, hp, fun q => by omega⟩
  | f + 1, p, hf, hp => by
    by_cases hP : P p = true
    · rw [go_s (by omega) hP]
      have := go_b (P := P) (N := N) f (p + 1) (by omega) (by omega)
      exact ⟨by omega, this.2.1, this.2.2⟩
    · rw [go_n hP]
      exact ⟨Nat.le_refl _, hp, fun _ => hP⟩
def sk (T : TxT) (N p : Nat) : Nat := go (fun k => decide (T k = 32)) N p
def kd (T : TxT) (N b : Nat) : Nat := if b < N then kdI (T b) else 0
def te (T : TxT) (N b : Nat) : Nat := if b < N then (if kdI (T b) = 3 then b + 1 else go (fun k => decide (kdI (T k) = kdI (T b))) N (b + 1)) else b
theorem sk_b {T : TxT} {N p : Nat} (h : p ≤ N) : p ≤ sk T N p ∧ sk T N p ≤ N := ⟨(go_b _ p rfl h).1, (go_b _ p rfl h).2.1⟩
theorem sk_n {T : TxT} {N p : Nat} (h : p ≤ N) (hl : sk T N p < N) : ¬ T (sk T N p) = 32 := fun q => (go_b (P := fun k => decide (T k = 32)) _ p rfl h).2.2 hl (decide_eq_true q)
theorem sk_id {T : TxT} {N b : Nat} (h : b < N → ¬ T b = 32) : sk T N b = b := by
  by_cases hb : b < N
  · exact go_n (fun q => h hb (of_decide_eq_true q))
  · exact go_end (by omega)
theorem sk_sk {T : TxT} {N p : Nat} (h : p ≤ N) : sk T N (sk T N p) = sk T N p := sk_id (sk_n h)
theorem te_b {T : TxT} {N b : Nat} (h : b ≤ N) : b ≤ te T N b ∧ te T N b ≤ N ∧ (b < N → b < te T N b) := by
  unfold te
  by_cases hb : b < N
  · rw [if_pos hb]
    split
    · exact ⟨by omega, by omega, fun _ => by omega⟩
    · have := go_b (P := fun k => decide (kdI (T k) = kdI (T b))) (N := N) _ (b + 1) rfl (by omega)
      exact ⟨by omega, this.2.1, fun _ => by omega⟩
  · rw [if_neg hb]
    exact ⟨Nat.le_refl _, h, fun q => absurd q hb⟩
/-- the class's token -/
def TX (T : TxT) (N : Nat) (s : St) : Prop := N ≤ 400 ∧ s 1 1 = nI N ∧ ∀ k, k < N → s 2 k = T k
def TK (T : TxT) (N : Nat) (s : St) (b : Nat) : Prop := TX T N s ∧ b ≤ N ∧ (b < N → ¬ T b = 32) ∧ s 1 2 = nI b ∧ s 1 3 = nI (te T N b) ∧ s 1 4 = nI (kd T N b)
theorem adv_of {T : TxT} {N e : Nat} {s : St} (hX : TX T N s) (he : e ≤ N) (h3 : s 1 3 = nI e) : Wo (q8_advance s) (fun s' => TK T N s' (sk T N e) ∧ ∀ i, i ≠ 1 → s' i = s i) := by
  obtain ⟨hN, h1, h2⟩ := hX
  unfold q8_advance
  dsimp only [lt]
  have hb := sk_b (T := T) he
  refine wo_bind (wo_mono (Q := fun w => w 1 1 = nI N ∧ w 1 2 = nI (sk T N e) ∧ ∀ i, i ≠ 1 → w i = s i) ?_ ?_)
  · refine lpW1 (N - e) (fun t w => w 1 1 = nI N ∧ w 1 2 = nI (e + t) ∧ sk T N e = sk T N (e + t) ∧ ∀ i, i ≠ 1 → w i = s i) ?_ fuelN 0 _ (Nat.zero_le _) (fuel_ok (by omega)) ⟨by rw [up_off (by decide)]; exact h1, by rw [up_at]; exact h3, rfl, fun i hi => up_pl hi⟩
    rintro rec t w ht ⟨w1, w2, w3, wf⟩ IH
    rw [w1, w2]
    by_cases hl : e + t < N
    · rw [if_pos (nI_lt hl (by omega)), ag_nI (k := e + t) rfl (by omega) (by decide), wf 2 (by decide), h2 _ hl]
      simp only [Option.bind_some]
      by_cases hsp : T (e + t) = 32
      · rw [if_pos hsp]
        simp only [Option.bind_some, if_true]
        refine IH _ (by omega) ⟨by rw [up_off (by decide)]; exact w1, by rw [up_at, nI_1, ← Nat.add_assoc], ?_, fun i hi => by rw [up_pl hi]; exact wf i hi⟩
        rw [w3]
        exact go_s hl (decide_eq_true hsp)
      · rw [if_neg hsp]
        simp only [Option.bind_some, Bool.false_eq_true, if_false]
        refine wo_some ⟨w1, ?_, wf⟩
        rw [w2, w3, sk_id (fun _ => hsp)]
    · rw [if_neg (fun q => hl ((nI_ltI (by omega) (by omega)).mp q))]
      simp only [Option.bind_some, Bool.false_eq_true, if_false]
      refine wo_some ⟨w1, ?_, wf⟩
      rw [w2, w3, sk_id (fun q => absurd q hl)]
  · rintro w ⟨w1, w2, wf⟩
    have hsn := sk_n (T := T) he
    generalize sk T N e = b at w2 hb hsn
    have g1 : up (up w 1 3 (w 1 2)) 1 4 0 1 1 = nI N := by rw [up_off (by decide), up_off (by decide)]; exact w1
    have g2 : up (up w 1 3 (w 1 2)) 1 4 0 1 2 = nI b := by rw [up_off (by decide), up_off (by decide)]; exact w2
    have g3 : up (up w 1 3 (w 1 2)) 1 4 0 1 3 = nI b := by rw [up_off (by decide), up_at]; exact w2
    have g4 : up (up w 1 3 (w 1 2)) 1 4 0 1 4 = 0 := up_at
    have gf : ∀ i, i ≠ 1 → up (up w 1 3 (w 1 2)) 1 4 0 i = s i := fun i hi => by rw [up_pl hi, up_pl hi]; exact wf i hi
    generalize up (up w 1 3 (w 1 2)) 1 4 0 = v at g1 g2 g3 g4 gf
    rw [g1, g2]
    by_cases hl : b < N
    · rw [if_pos (nI_lt hl (by omega)), ag_nI (k := b) rfl (by omega) (by decide), gf 2 (by decide), h2 b hl]
      simp only [Option.bind_some]
      rw [kind_ok]
      have kb := kdI_b (T b)
      have k1 : up (up v 1 4 (nI (kdI (T b)))) 1 3 (up v 1 4 (nI (kdI (T b))) 1 3 + 1) 1 1 = nI N := by rw [up_off (by decide), up_off (by decide)]; exact g1
      have k2 : up (up v 1 4 (nI (kdI (T b)))) 1 3 (up v 1 4 (nI (kdI (T b))) 1 3 + 1) 1 2 = nI b := by rw [up_off (by decide), up_off (by decide)]; exact g2
      have k3 : up (up v 1 4 (nI (kdI (T b)))) 1 3 (up v 1 4 (nI (kdI (T b))) 1 3 + 1) 1 3 = nI (b + 1) := by rw [up_at, up_off (by decide), g3, nI_1]
      have k4 : up (up v 1 4 (nI (kdI (T b)))) 1 3 (up v 1 4 (nI (kdI (T b))) 1 3 + 1) 1 4 = nI (kdI (T b)) := by rw [up_off (by decide), up_at]
      have kf : ∀ i, i ≠ 1 → up (up v 1 4 (nI (kdI (T b)))) 1 3 (up v 1 4 (nI (kdI (T b))) 1 3 + 1) i = s i := fun i hi => by rw [up_pl hi, up_pl hi]; exact gf i hi
      generalize up (up v 1 4 (nI (kdI (T b)))) 1 3 (up v 1 4 (nI (kdI (T b))) 1 3 + 1) = y at k1 k2 k3 k4 kf
      have hte : te T N b = if kdI (T b) = 3 then b + 1 else go (fun k => decide (kdI (T k) = kdI (T b))) N (b + 1) := by unfold te; rw [if_pos hl]
      have hkd : kd T N b = kdI (T b) := by unfold kd; rw [if_pos hl]
      refine wo_bind ?_
      refine lpW1 (N - (b + 1)) (fun t z => z 1 1 = nI N ∧ z 1 2 = nI b ∧ z 1 3 = nI (b + 1 + t) ∧ z 1 4 = nI (kdI (T b)) ∧ (t = 0 ∨ kdI (T b) ≠ 3) ∧ go (fun k => decide (kdI (T k) = kdI (T b))) N (b + 1) = go (fun k => decide (kdI (T k) = kdI (T b))) N (b + 1 + t) ∧ ∀ i, i ≠ 1 → z i = s i) ?_ fuelN 0 _ (Nat.zero_le _) (fuel_ok (by omega)) ⟨k1, k2, k3, k4, Or.inl rfl, rfl, kf⟩
      rintro rec t z ht ⟨z1, z2, z3, z4, z5, z6, zf⟩ IH
      have e3 : nI (kdI (T b)) = 3 ↔ kdI (T b) = 3 := nI_eq (b := 3) (by omega) (by decide)
      rw [z4, z3, z1]
      have hend : te T N b = b + 1 + t → Wo (some z) (fun a => Wo (some a) (fun s' => TK T N s' b ∧ ∀ i, i ≠ 1 → s' i = s i)) := fun q => wo_some (wo_some ⟨⟨⟨hN, z1, fun k hk => by rw [zf 2 (by decide)]; exact h2 k hk⟩, by omega, hsn, z2, by rw [q]; exact z3, by rw [hkd]; exact z4⟩, zf⟩)
      by_cases h33 : kdI (T b) = 3
      · rw [if_neg (not_not_intro (e3.mpr h33))]
        simp only [Option.bind_some, Bool.false_eq_true, if_false]
        have : t = 0 := z5.elim id (fun q => absurd h33 q)
        subst this
        exact hend (by rw [hte, if_pos h33])
      · rw [if_neg h33] at hte
        rw [if_pos (fun q => h33 (e3.mp q))]
        by_cases hl2 : b + 1 + t < N
        · rw [if_pos (nI_lt hl2 (by omega)), ag_nI (k := b + 1 + t) rfl (by omega) (by decide), zf 2 (by decide), h2 _ hl2]
          simp only [Option.bind_some]
          have kb2 := kdI_b (T (b + 1 + t))
          rw [kind_ok]
          have e4 : nI (kdI (T (b + 1 + t))) = nI (kdI (T b)) ↔ kdI (T (b + 1 + t)) = kdI (T b) := nI_eq (by omega) (by omega)
          by_cases hk : kdI (T (b + 1 + t)) = kdI (T b)
          · rw [if_pos (e4.mpr hk)]
            simp only [Option.bind_some, if_true]
            refine IH _ (by omega) ⟨by rw [up_off (by decide)]; exact z1, by rw [up_off (by decide)]; exact z2, by rw [up_at, nI_1]; rfl, by rw [up_off (by decide)]; exact z4, Or.inr h33, ?_, fun i hi => by rw [up_pl hi]; exact zf i hi⟩
            rw [z6]
            exact go_s hl2 (decide_eq_true hk)
          · rw [if_neg (fun q => hk (e4.mp q))]
            simp only [Option.bind_some, Bool.false_eq_true, if_false]
            exact hend (by rw [hte, z6]; exact go_n (fun q => hk (of_decide_eq_true q)))
        · rw [if_neg (fun q => hl2 ((nI_ltI (by omega) (by omega)).mp q))]
          simp only [Option.bind_some, Bool.false_eq_true, if_false]
          exact hend (by rw [hte, z6]; exact go_end (by omega))
    · rw [if_neg (fun q => hl ((nI_ltI (by omega) (by omega)).mp q))]
      simp only [Option.bind_some]
      have hbN : b = N := by omega
      refine wo_bind ?_
      refine lpW1 0 (fun t z => z = v) ?_ fuelN 0 _ (Nat.zero_le _) (fuel_ok (by omega)) rfl
      rintro rec t z ht rfl IH
      rw [g4, if_pos (show ¬ (0 : Int32) = 3 by decide), g3, g1, if_neg (fun q => hl ((nI_ltI (by omega) (by omega)).mp q))]
      simp only [Option.bind_some, Bool.false_eq_true, if_false]
      refine wo_some (wo_some ⟨⟨⟨hN, g1, fun k hk => by rw [gf 2 (by decide)]; exact h2 k hk⟩, by omega, hsn, g2, ?_, ?_⟩, gf⟩)
      · rw [g3]; unfold te; rw [if_neg hl]
      · rw [g4]; unfold kd; rw [if_neg hl]; rfl
theorem adv_ok {T : TxT} {N b : Nat} {s : St} (h : TK T N s b) : Wo (q8_advance s) (fun s' => TK T N s' (sk T N (te T N b)) ∧ ∀ i, i ≠ 1 → s' i = s i) := adv_of h.1 (te_b h.2.1).2.1 h.2.2.2.2.1
theorem TK.mv {T : TxT} {N b : Nat} {s s' : St} (h : TK T N s b) (e1 : s' 1 = s 1) (e2 : s' 2 = s 2) : TK T N s' b := by
  obtain ⟨⟨a1, a2, a3⟩, b1, b2, b3, b4, b5⟩ := h
  exact ⟨⟨a1, by rw [e1]; exact a2, fun k hk => by rw [e2]; exact a3 k hk⟩, b1, b2, by rw [e1]; exact b3, by rw [e1]; exact b4, by rw [e1]; exact b5⟩
/-- words -/
def wl (w : Nat) : Nat := strL.getD w 0
def wc (w i : Nat) : Int32 := (strB.getD w []).getD i 0
theorem wl_b : ∀ w, w < 46 → 0 < wl w ∧ wl w < 100 := by decide +kernel
theorem schr_ok {w i : Nat} (hi : i < wl w) (hw : w < 46) : schr w (nI i) = some (wc w i) := by
  have := (wl_b w hw).2
  unfold schr
  rw [nI_clamp (by omega), if_neg]
  · rfl
  · intro q
    rcases q with q | q
    · exact nI_pos (by omega) q
    · unfold wl at hi; omega
def wdF (T : TxT) (w b : Nat) : Nat → Bool
  | 0 => true
  | i + 1 => wdF T w b i && decide (T (b + i) = wc w i)
def wd (T : TxT) (N b w : Nat) : Bool := decide (kd T N b = 1) && (decide (te T N b - b = wl w) && wdF T w b (wl w))
theorem wdF_f {T : TxT} {w b i j : Nat} (h : i < j) (hf : ¬ T (b + i) = wc w i) : wdF T w b j = false := by
  induction j with
  | zero => omega
  | succ j ih =>
    show (wdF T w b j && decide (T (b + j) = wc w j)) = false
    by_cases hij : i = j
    · subst hij; rw [decide_eq_false hf, Bool.and_false]
    · rw [ih (by omega), Bool.false_and]
theorem te_len {T : TxT} {N b : Nat} (hN : N ≤ 400) (h : b ≤ N) : nI (te T N b) - nI b = nI (te T N b - b) := pk_sub (te_b h).1
theorem word_ok {T : TxT} {N b w : Nat} {s : St} (h : TK T N s b) (hw : w < 46) : q8_isWord s w = some (wd T N b w) := by
  obtain ⟨⟨hN, h1, h2⟩, hb, hsp, k2, k3, k4⟩ := h
  have ht := te_b (T := T) hb
  have hwl := wl_b w hw
  have key : Wo (q8_isWord s w) (fun r => r = wd T N b w) := by
    unfold q8_isWord
    dsimp only [lt]
    rw [k4, k3, k2, te_len hN hb]
    have kb : kd T N b ≤ 3 := by
      unfold kd
      split
      · exact (kdI_b _).2
      · omega
    have e1 : nI (kd T N b) = 1 ↔ kd T N b = 1 := nI_eq (b := 1) (by omega) (by decide)
    have e2 : nI (te T N b - b) = slen w ↔ te T N b - b = wl w := nI_eq (b := wl w) (by omega) (by omega)
    unfold wd
    by_cases c1 : kd T N b = 1
    · rw [if_neg (not_not_intro (e1.mpr c1)), decide_eq_true c1, Bool.true_and]
      by_cases c2 : te T N b - b = wl w
      · rw [if_neg (not_not_intro (e2.mpr c2)), decide_eq_true c2, Bool.true_and]
        simp only [Option.bind_some, Bool.false_eq_true, if_false]
        refine wo_bind ?_
        refine lpW1 (wl w) (fun t q => q = nI t ∧ wdF T w b t = true) ?_ fuelN 0 _ (Nat.zero_le _) (fuel_ok (by omega)) ⟨rfl, rfl⟩
        rintro rec t q ht2 ⟨rfl, hq⟩ IH
        have e3 : nI t < slen w ↔ t < wl w := nI_ltI (b := wl w) (by omega) (by omega)
        by_cases hl : t < wl w
        · rw [if_pos (e3.mpr hl), nI_add, ag_nI (k := b + t) rfl (by omega) (by decide), h2 _ (by omega), schr_ok hl hw]
          simp only [Option.bind_some]
          by_cases hc : T (b + t) = wc w t
          · rw [if_neg (not_not_intro hc), nI_1]
            refine IH _ hl ⟨rfl, ?_⟩
            show (wdF T w b t && decide (T (b + t) = wc w t)) = true
            rw [hq, decide_eq_true hc]
            rfl
          · rw [if_pos hc]
            exact wo_some (wo_some (wdF_f hl hc).symm)
        · have : t = wl w := by omega
          subst this
          rw [if_neg (fun q => hl (e3.mp q))]
          exact wo_some (wo_some hq.symm)
      · rw [if_pos (fun q => c2 (e2.mp q)), decide_eq_false c2, Bool.false_and]
        exact wo_some rfl
    · rw [if_pos (fun q => c1 (e1.mp q)), decide_eq_false c1, Bool.false_and]
      exact wo_some rfl
  obtain ⟨r, e, rfl⟩ := key
  exact e
def sg (T : TxT) (N b : Nat) (c : Int32) : Bool := decide (b < N) && decide (T b = c)
theorem sign_ok {T : TxT} {N b : Nat} {s : St} {c : Int32} (h : TK T N s b) (hc : kdI c = 3) : q8_isSign s c = some (sg T N b c) := by
  obtain ⟨⟨hN, h1, h2⟩, hb, hsp, k2, k3, k4⟩ := h
  unfold q8_isSign
  rw [k4, k2]
  have kb : kd T N b ≤ 3 := by
    unfold kd
    split
    · exact (kdI_b _).2
    · omega
  have e1 : nI (kd T N b) = 3 ↔ kd T N b = 3 := nI_eq (b := 3) (by omega) (by decide)
  unfold sg
  by_cases hl : b < N
  · have hkd : kd T N b = kdI (T b) := by unfold kd; rw [if_pos hl]
    rw [decide_eq_true hl, Bool.true_and]
    by_cases c1 : kd T N b = 3
    · rw [if_pos (e1.mpr c1), ag_nI (k := b) rfl (by omega) (by decide), h2 b hl]
      simp only [Option.bind_some]
      by_cases c2 : T b = c
      · rw [if_pos c2, decide_eq_true c2]; rfl
      · rw [if_neg c2, decide_eq_false c2]; rfl
    · rw [if_neg (fun q => c1 (e1.mp q)), decide_eq_false (fun q => c1 (by rw [hkd, q]; exact hc))]
      rfl
  · have hkd : kd T N b = 0 := by unfold kd; rw [if_neg hl]
    rw [decide_eq_false hl, Bool.false_and, if_neg (fun q => by have := e1.mp q; omega)]
    rfl
theorem atEnd_ok {T : TxT} {N b : Nat} {s : St} (h : TK T N s b) : q8_isAtEnd s = decide (b = N) := by
  unfold q8_isAtEnd
  rw [h.2.2.2.2.2]
  refine decide_eq_decide.mpr ?_
  unfold kd
  have hb := h.2.1
  have kb := kdI_b (T b)
  by_cases hl : b < N
  · rw [if_pos hl]
    constructor
    · intro q
      have : kdI (T b) = 0 := (nI_0i (by omega)).mp q
      omega
    · omega
  · rw [if_neg hl]
    exact ⟨fun _ => by omega, fun _ => rfl⟩
/-- numbers -/
def nvI (T : TxT) (b : Nat) : Nat → Nat
  | 0 => 0
  | k + 1 => nvI T b k * 10 + ((T (b + k)).toNatClampNeg - 48)
theorem dg_ok {x : Int32} (h : kdI x = 2) : ∃ d, d ≤ 9 ∧ x = nI (d + 48) ∧ x.toNatClampNeg - 48 = d := by
  have h := (kdI_2 x).mp h
  obtain ⟨k, hk, rfl⟩ := num_le (M := 57) (by decide) (Int32.le_trans (by decide) h.1) h.2
  have h48 : 48 ≤ k := by
    have := h.1
    rw [show (48 : Int32) = nI 48 from rfl, ← Int32.not_lt, nI_ltI (by omega) (by omega)] at this
    omega
  refine ⟨k - 48, by omega, ?_, ?_⟩
  · rw [show k - 48 + 48 = k from by omega]
  · rw [nI_clamp (by omega)]
theorem nv_b {T : TxT} {b : Nat} : ∀ k, (∀ j, j < k → kdI (T (b + j)) = 2) → nvI T b k < 10 ^ k
  | 0, _ => Nat.one_pos
  | k + 1, h => by
    have ih := nv_b (T := T) (b := b) k (fun j hj => h j (by omega))
    obtain ⟨d, d1, -, d3⟩ := dg_ok (h k (by omega))
    show nvI T b k * 10 + ((T (b + k)).toNatClampNeg - 48) < 10 ^ (k + 1)
    rw [d3, Nat.pow_succ]
    omega
theorem dig_in {T : TxT} {N b : Nat} (hk : kd T N b = 2) {j : Nat} (hj : b + j < te T N b) : kdI (T (b + j)) = 2 := by
  have hb : b < N := by
    unfold kd at hk
    split at hk
    · assumption
    · omega
  have hkd : kdI (T b) = 2 := by unfold kd at hk; rw [if_pos hb] at hk; exact hk
  have hte : te T N b = go (fun k => decide (kdI (T k) = kdI (T b))) N (b + 1) := by unfold te; rw [if_pos hb, if_neg (by omega)]
  rw [hte] at hj
  have key : ∀ f p, N - p = f → p ≤ N → ∀ q, p ≤ q → q < go (fun k => decide (kdI (T k) = kdI (T b))) N p → kdI (T q) = kdI (T b) := by
    intro f
    induction f with
    | zero =>
      intro p hf hp q h1 h2
      rw [go_end (by omega)] at h2
      omega
    | succ f ih =>
      intro p hf hp q h1 h2
      by_cases hP : kdI (T p) = kdI (T b)
      · rw [go_s (by omega) (decide_eq_true hP)] at h2
        by_cases hqp : q = p
        · subst hqp; exact hP
        · exact ih (p + 1) (by omega) (by omega) q (by omega) h2
      · rw [go_n (fun q => hP (of_decide_eq_true q))] at h2
        omega
  by_cases hj0 : j = 0
  · subst hj0; exact hkd
  · rw [← hkd]
    exact key _ (b + 1) rfl (by omega) (b + j) (by omega) hj
def nm (T : TxT) (N b : Nat) (H : Int32) : Option Nat := if kd T N b = 2 ∧ te T N b - b ≤ 3 ∧ nI (nvI T b (te T N b - b)) ≤ H then some (nvI T b (te T N b - b)) else none
theorem nm_b {T : TxT} {N b v : Nat} {H : Int32} (h : nm T N b H = some v) : v ≤ 999 ∧ nI v ≤ H := by
  unfold nm at h
  split at h
  · next q =>
    cases h
    have hb := nv_b (T := T) (b := b) (te T N b - b) (fun j hj => dig_in q.1 (by omega))
    have : 10 ^ (te T N b - b) ≤ 10 ^ 3 := Nat.pow_le_pow_right (by omega) q.2.1
    exact ⟨by omega, q.2.2⟩
  · cases h
def oI : Option Nat → Int32
  | some v => nI v
  | none => -1
theorem num_ok {T : TxT} {N b : Nat} {s : St} {H : Int32} (h : TK T N s b) : q8_numberUpTo s H = some (oI (nm T N b H)) := by
  obtain ⟨⟨hN, h1, h2⟩, hb, hsp, k2, k3, k4⟩ := h
  have ht := te_b (T := T) hb
  have key : Wo (q8_numberUpTo s H) (fun r => r = (oI (nm T N b H))) := by
    unfold q8_numberUpTo
    dsimp only [lt]
    rw [k4, k3, k2, te_len hN hb]
    have kb : kd T N b ≤ 3 := by
      unfold kd
      split
      · exact (kdI_b _).2
      · omega
    have e1 : nI (kd T N b) = 2 ↔ kd T N b = 2 := nI_eq (b := 2) (by omega) (by decide)
    have e2 : (3 : Int32) < nI (te T N b - b) ↔ 3 < te T N b - b := nI_ltI (a := 3) (by omega) (by omega)
    unfold nm
    by_cases c1 : kd T N b = 2 ∧ te T N b - b ≤ 3
    · rw [if_neg (fun q => q.elim (fun q => q (e1.mpr c1.1)) (fun q => by have := e2.mp q; omega))]
      have hdg : ∀ j, j < te T N b - b → kdI (T (b + j)) = 2 := fun j hj => dig_in c1.1 (by omega)
      refine wo_bind (wo_mono (Q := fun y => y.1 = nI (nvI T b (te T N b - b))) ?_ ?_)
      · refine lpW2 (te T N b - b) (fun t v q => q = nI (b + t) ∧ v = nI (nvI T b t)) ?_ fuelN 0 _ _ (Nat.zero_le _) (fuel_ok (by omega)) ⟨rfl, rfl⟩
        rintro rec t v q ht2 ⟨rfl, rfl⟩ IH
        have e3 : nI (b + t) < nI (te T N b) ↔ b + t < te T N b := nI_ltI (by omega) (by omega)
        by_cases hl : b + t < te T N b
        · rw [if_pos (e3.mpr hl), ag_nI (k := b + t) rfl (by omega) (by decide), h2 _ (by omega)]
          simp only [Option.bind_some]
          obtain ⟨d, d1, d2, d3⟩ := dg_ok (hdg t (by omega))
          refine IH _ _ (by omega) ⟨by rw [nI_1]; rfl, ?_⟩
          show _ = nI (nvI T b t * 10 + ((T (b + t)).toNatClampNeg - 48))
          rw [d3, d2, show (10 : Int32) = nI 10 from rfl, pk_mul, nI_add, show (48 : Int32) = nI 48 from rfl, pk_sub (by omega)]
          congr 1
        · rw [if_neg (fun q => hl (e3.mp q))]
          have : t = te T N b - b := by omega
          subst this
          exact wo_some rfl
      · rintro ⟨y, y2⟩ hy
        dsimp only at hy ⊢
        subst hy
        by_cases c3 : nI (nvI T b (te T N b - b)) ≤ H
        · rw [if_pos c3, if_pos ⟨c1.1, c1.2, c3⟩]
          exact wo_some rfl
        · rw [if_neg c3, if_neg (fun q => c3 q.2.2)]
          exact wo_some rfl
    · rw [if_pos, if_neg (fun q => c1 ⟨q.1, q.2.1⟩)]
      · exact wo_some rfl
      · by_cases c2 : kd T N b = 2
        · exact Or.inr (e2.mpr (by omega))
        · exact Or.inl (fun q => c2 (e1.mp q))
  obtain ⟨r, e, rfl⟩ := key
  exact e

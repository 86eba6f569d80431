/-! LAYER 2: THE RELATION OF BOTH STORES -/
def bs (f : Nat → Bool) : Nat → Nat
  | 0 => 0
  | n + 1 => bs f n + (if f n = true then 2 ^ n else 0)
theorem bs_lt (f : Nat → Bool) : ∀ n, bs f n < 2 ^ n
  | 0 => Nat.one_pos
  | n + 1 => by
    have h := bs_lt f n
    have e : (2 : Nat) ^ (n + 1) = 2 ^ n + 2 ^ n := by rw [Nat.pow_succ]; omega
    unfold bs
    split <;> omega
theorem bs_le {n : Nat} (h : n ≤ 6) (f : Nat → Bool) : bs f n < 64 := Nat.lt_of_lt_of_le (bs_lt f n) (Nat.pow_le_pow_right (by omega) h)
theorem bs_congr {f g : Nat → Bool} : ∀ {n : Nat}, (∀ p, p < n → f p = g p) → bs f n = bs g n
  | 0, _ => rfl
  | n + 1, h => by
    unfold bs
    rw [bs_congr (fun p hp => h p (by omega)), h n (by omega)]
theorem bs_bit (f : Nat → Bool) : ∀ n p, p < n → (bs f n).testBit p = f p
  | 0, p, h => absurd h (Nat.not_lt_zero _)
  | n + 1, p, h => by
    have hb := bs_lt f n
    unfold bs
    by_cases hp : p = n
    · subst hp
      cases hf : f p with
      | false => simp only [Bool.false_eq_true, if_false, Nat.add_zero]; exact Nat.testBit_lt_two_pow hb
      | true =>
        simp only [if_true]
        rw [Nat.add_comm, Nat.testBit_two_pow_add_eq, Nat.testBit_lt_two_pow hb]
        rfl
    · have hp2 : p < n := by omega
      cases hf : f n with
      | false => simp only [Bool.false_eq_true, if_false, Nat.add_zero]; exact bs_bit f n p hp2
      | true =>
        simp only [if_true]
        rw [Nat.add_comm, Nat.testBit_two_pow_add_gt hp2]
        exact bs_bit f n p hp2
theorem bs_bit_ge (f : Nat → Bool) {n p : Nat} (h : n ≤ p) : (bs f n).testBit p = false := Nat.testBit_lt_two_pow (Nat.lt_of_lt_of_le (bs_lt f n) (Nat.pow_le_pow_right (by omega) h))
theorem isIn_bit : ∀ a, a < 64 → ∀ p, p < 6 → q11_isIn (nI a) (nI p) = a.testBit p := by decide +kernel
theorem isOf_isIn (s k : Int32) : q12_isOf s k = q11_isIn s k := rfl
theorem or_bit : ∀ k, k < 6 → ∀ a, a < 64 → a < 2 ^ k → nI a ||| shl 1 (nI k) = nI (a + 2 ^ k) := by decide +kernel
theorem or_zero (x : Int32) : x ||| 0 = x := by simp
def inR (x : Int32) (N : Nat) : Prop := ∃ a, a ≤ N ∧ x = nI a
/-- the people -/
def RPe (d : Nat → Nat → Int32) (m : Nat → Int32) (n : Nat) : Prop := ∀ p, p < n → d 1 p = m (14 + 7 * p) ∧ d 2 p = m (14 + 7 * p + 1) ∧ d 3 p = m (14 + 7 * p + 2) ∧ d 4 p = m (14 + 7 * p + 5) ∧ d 5 p = m (14 + 7 * p + 6)
def fS (m : Nat → Int32) : Nat → Bool := fun p => decide (m (14 + 7 * p + 3) = 1)
def fB (m : Nat → Int32) : Nat → Bool := fun p => decide (m (14 + 7 * p + 4) = 1)
def RSe (d : Nat → Nat → Int32) (m : Nat → Int32) (n : Nat) : Prop := d 0 9 = nI (bs (fS m) n) ∧ d 0 10 = nI (bs (fB m) n)
def RKe (d : Nat → Nat → Int32) (m : Nat → Int32) (n : Nat) : Prop := ∀ p o, p < n → o < n → p ≠ o → d 6 (p * 6 + o) = m (63 + 7 * p + o)
def RGe (d : Nat → Nat → Int32) (m : Nat → Int32) : Prop := ∀ q, q < 4 → d 7 q = m (10 + q)
def RNe (d : Nat → Nat → Int32) (m : Nat → Int32) : Prop := d 0 11 = m 5 ∧ d 0 12 = m 4 ∧ d 0 13 = m 6 ∧ d 0 14 = m 7 ∧ d 0 15 = m 9 ∧ d 0 16 = m 0
def RBe (d : Nat → Nat → Int32) (n : Nat) : Prop := (∀ p, n ≤ p → p < 6 → d 3 p = 0 ∧ d 4 p = 0 ∧ d 5 p = 0) ∧ ∀ p o, p < 6 → o < 6 → n ≤ p ∨ n ≤ o → d 6 (p * 6 + o) = 5
def RLe (d : Nat → Nat → Int32) (m : Nat → Int32) : Prop := ∃ L f, L ≤ 60 ∧ f < 60 ∧ d 8 1 = nI L ∧ d 8 2 = nI f ∧ m 8 = nI L ∧ ∀ a c, a < L → c < 4 → d 9 (4 * ((f + 59 - a) % 60) + c) = m (112 + 4 * a + c)
def RVd (d : Nat → Nat → Int32) (m : Nat → Int32) (n : Nat) : Prop := (n ≤ 6 ∧ d 0 8 = nI n ∧ m 3 = nI n) ∧ RPe d m n ∧ RSe d m n ∧ RKe d m n ∧ RGe d m ∧ RNe d m ∧ RBe d n ∧ RLe d m
/-- what is kept lies in its ranges -/
def WFm (m : Nat → Int32) (n : Nat) : Prop := (∀ p, p < n → inR (m (14 + 7 * p)) 9 ∧ inR (m (14 + 7 * p + 1)) 2 ∧ inR (m (14 + 7 * p + 2)) 9 ∧ inR (m (14 + 7 * p + 3)) 1 ∧ inR (m (14 + 7 * p + 4)) 1 ∧ inR (m (14 + 7 * p + 5)) 999 ∧ inR (m (14 + 7 * p + 6)) 99) ∧ (∀ p o, p < n → o < n → p ≠ o → inR (m (63 + 7 * p + o)) 9) ∧ (∀ q, q < 4 → inR (m (10 + q)) 99) ∧ inR (m 5) 9999 ∧ inR (m 4) 9999 ∧ inR (m 6) 5 ∧ inR (m 7) 100 ∧ inR (m 0) 12
abbrev vd (σ : St) (v : Nat) : Nat → Nat → Int32 := fun j k => σ (v + j) k
/-- the same village, elsewhere -/
def VE (d d' : Nat → Nat → Int32) : Prop := (∀ j k, 1 ≤ j → j ≤ 5 → k < 6 → d' j k = d j k) ∧ (∀ k, k < 36 → d' 6 k = d 6 k) ∧ (∀ k, k < 4 → d' 7 k = d 7 k) ∧ d' 8 1 = d 8 1 ∧ d' 8 2 = d 8 2 ∧ (∀ k, k < 240 → d' 9 k = d 9 k) ∧ ∀ k, 8 ≤ k → k ≤ 16 → d' 0 k = d 0 k
theorem RVd.to {d d' : Nat → Nat → Int32} {m : Nat → Int32} {n : Nat} (h : RVd d m n) (e : VE d d') : RVd d' m n := by
  obtain ⟨⟨a1, a2, a3⟩, b, ⟨c1, c2⟩, k, g, ⟨n1, n2, n3, n4, n5, n6⟩, ⟨x1, x2⟩, L, f, l1, l2, l3, l4, l5, l6⟩ := h
  obtain ⟨e1, e2, e3, e4, e5, e6, e7⟩ := e
  refine ⟨⟨a1, by rw [e7 8 (by omega) (by omega)]; exact a2, a3⟩, fun p hp => ?_, ⟨by rw [e7 9 (by omega) (by omega)]; exact c1, by rw [e7 10 (by omega) (by omega)]; exact c2⟩, fun p o hp ho hne => ?_, fun q hq => ?_, ⟨?_, ?_, ?_, ?_, ?_, ?_⟩, ⟨fun p h1 h2 => ?_, fun p o h1 h2 h3 => ?_⟩, L, f, l1, l2, by rw [e4]; exact l3, by rw [e5]; exact l4, l5, fun a c ha hc => ?_⟩
  · obtain ⟨b1, b2, b3, b4, b5⟩ := b p hp
    rw [e1 1 p (by omega) (by omega) (by omega), e1 2 p (by omega) (by omega) (by omega), e1 3 p (by omega) (by omega) (by omega), e1 4 p (by omega) (by omega) (by omega), e1 5 p (by omega) (by omega) (by omega)]
    exact ⟨b1, b2, b3, b4, b5⟩
  · rw [e2 _ (by omega)]; exact k p o hp ho hne
  · rw [e3 _ hq]; exact g q hq
  · rw [e7 11 (by omega) (by omega)]; exact n1
  · rw [e7 12 (by omega) (by omega)]; exact n2
  · rw [e7 13 (by omega) (by omega)]; exact n3
  · rw [e7 14 (by omega) (by omega)]; exact n4
  · rw [e7 15 (by omega) (by omega)]; exact n5
  · rw [e7 16 (by omega) (by omega)]; exact n6
  · rw [e1 3 p (by omega) (by omega) h2, e1 4 p (by omega) (by omega) h2, e1 5 p (by omega) (by omega) h2]; exact x1 p h1 h2
  · rw [e2 _ (by omega)]; exact x2 p o h1 h2 h3
  · rw [e6 _ (by omega)]; exact l6 a c ha hc
/-- the rows of a village and of the model's row below the text, unchanged -/
theorem RVd.row {d : Nat → Nat → Int32} {m m' : Nat → Int32} {n : Nat} (h : RVd d m n) (e : ∀ k, k < 352 → k ≠ 1 → k ≠ 2 → m' k = m k) : RVd d m' n := by
  obtain ⟨⟨a1, a2, a3⟩, b, ⟨c1, c2⟩, k, g, ⟨n1, n2, n3, n4, n5, n6⟩, x, L, f, l1, l2, l3, l4, l5, l6⟩ := h
  refine ⟨⟨a1, a2, by rw [e 3 (by omega) (by omega) (by omega)]; exact a3⟩, fun p hp => ?_, ⟨?_, ?_⟩, fun p o hp ho hne => ?_, fun q hq => ?_, ⟨?_, ?_, ?_, ?_, ?_, ?_⟩, x, L, f, l1, l2, l3, l4, by rw [e 8 (by omega) (by omega) (by omega)]; exact l5, fun a c ha hc => ?_⟩
  · rw [e _ (by omega) (by omega) (by omega), e _ (by omega) (by omega) (by omega), e _ (by omega) (by omega) (by omega), e _ (by omega) (by omega) (by omega), e _ (by omega) (by omega) (by omega)]
    exact b p hp
  · rw [c1]; congr 1; exact bs_congr (fun p hp => by unfold fS; rw [e _ (by omega) (by omega) (by omega)])
  · rw [c2]; congr 1; exact bs_congr (fun p hp => by unfold fB; rw [e _ (by omega) (by omega) (by omega)])
  · rw [e _ (by omega) (by omega) (by omega)]; exact k p o hp ho hne
  · rw [e _ (by omega) (by omega) (by omega)]; exact g q hq
  · rw [e _ (by omega) (by omega) (by omega)]; exact n1
  · rw [e _ (by omega) (by omega) (by omega)]; exact n2
  · rw [e _ (by omega) (by omega) (by omega)]; exact n3
  · rw [e _ (by omega) (by omega) (by omega)]; exact n4
  · rw [e _ (by omega) (by omega) (by omega)]; exact n5
  · rw [e _ (by omega) (by omega) (by omega)]; exact n6
  · rw [e _ (by omega) (by omega) (by omega)]; exact l6 a c ha hc
theorem WFm.row {m m' : Nat → Int32} {n : Nat} (hn : n ≤ 6) (h : WFm m n) (e : ∀ k, k < 352 → k ≠ 1 → k ≠ 2 → m' k = m k) : WFm m' n := by
  obtain ⟨a, b, c, d1, d2, d3, d4, d5⟩ := h
  refine ⟨fun p hp => ?_, fun p o hp ho hne => ?_, fun q hq => ?_, ?_, ?_, ?_, ?_, ?_⟩
  · rw [e _ (by omega) (by omega) (by omega), e _ (by omega) (by omega) (by omega), e _ (by omega) (by omega) (by omega), e _ (by omega) (by omega) (by omega), e _ (by omega) (by omega) (by omega), e _ (by omega) (by omega) (by omega), e _ (by omega) (by omega) (by omega)]
    exact a p hp
  · rw [e _ (by omega) (by omega) (by omega)]; exact b p o hp ho hne
  · rw [e _ (by omega) (by omega) (by omega)]; exact c q hq
  · rw [e _ (by omega) (by omega) (by omega)]; exact d1
  · rw [e _ (by omega) (by omega) (by omega)]; exact d2
  · rw [e _ (by omega) (by omega) (by omega)]; exact d3
  · rw [e _ (by omega) (by omega) (by omega)]; exact d4
  · rw [e _ (by omega) (by omega) (by omega)]; exact d5
/-- a village with its row -/
def RVW (d : Nat → Nat → Int32) (m : Nat → Int32) : Prop := ∃ n, RVd d m n ∧ WFm m n
theorem RVW.to {d d' : Nat → Nat → Int32} {m : Nat → Int32} (h : RVW d m) (e : VE d d') : RVW d' m := by
  obtain ⟨n, h1, h2⟩ := h
  exact ⟨n, h1.to e, h2⟩
theorem RVW.row {d : Nat → Nat → Int32} {m m' : Nat → Int32} (h : RVW d m) (e : ∀ k, k < 352 → k ≠ 1 → k ≠ 2 → m' k = m k) : RVW d m' := by
  obtain ⟨n, h1, h2⟩ := h
  exact ⟨n, h1.row e, h2.row h1.1.1 e⟩
def RTe (σ μ : St) : Prop := ∃ t, t ≤ 400 ∧ σ 1 1 = nI t ∧ μ 0 8 = nI t ∧ ∀ k, k < t → σ 2 k = μ 5 k ∧ inR (σ 2 k) 255
/-- the acts: the a-th of A, oldest first -/
def RAe (σ μ : St) : Prop := ∃ A f, A ≤ 12 ∧ f < 12 ∧ σ 5 1 = nI A ∧ σ 5 2 = nI f ∧ μ 0 6 = nI A ∧ ∀ a, a < A → RVW (vd σ (74 + 10 * ((f + 12 - A + a) % 12))) (fun k => μ 4 (352 * a + k)) ∧ μ 4 (352 * a + 1) = μ 1 1 ∧ μ 4 (352 * a + 2) = μ 1 2
/-- the law in a text and in code: what is asked of it (LR) stands in a part of its own -/
abbrev LRT : Type := Int32 → Int32 → (Nat → Int32) → Int32 → Int32 → (Nat → Int32) → Prop
def LRok (LR : LRT) : Prop := ∀ {a b : Int32} {c c' : Nat → Int32} {x y : Int32} {t t' : Nat → Int32}, LR a b c x y t → (∀ k, k < 412 → c' k = c k) → (∀ k, k < 400 → t' k = t k) → LR a b c' x y t'
/-- what is a boolean -/
def isB (x : Int32) : Prop := x = 0 ∨ x = 1
def RFl (μ : St) : Prop := isB (μ 0 15) ∧ isB (μ 0 16) ∧ isB (μ 0 18)
theorem RFl.eq {μ μ' : St} (h : RFl μ) (e1 : μ' 0 15 = μ 0 15) (e2 : μ' 0 16 = μ 0 16) (e3 : μ' 0 18 = μ 0 18) : RFl μ' := by
  unfold RFl at h ⊢
  rw [e1, e2, e3]
  exact h
def RIe (LR : LRT) (σ μ : St) : Prop := RFl μ ∧ ((σ 0 14 = 0 ∧ μ 0 3 = 0) ∨ (σ 0 14 = 1 ∧ μ 0 3 = 1 ∧ RVW (vd σ 64) (μ 2) ∧ LR (σ 40 3) (σ 40 4) (σ 41) (μ 2 1) (μ 2 2) (fun k => μ 2 (352 + k))))
def RR (LR : LRT) (σ μ : St) : Prop := RVW (vd σ 44) (μ 1) ∧ RTe σ μ ∧ σ 0 15 = μ 0 12 ∧ RAe σ μ ∧ RIe LR σ μ ∧ LR (σ 32 3) (σ 32 4) (σ 33) (μ 1 1) (μ 1 2) (fun k => μ 1 (352 + k))
/-- scratch of the reference may change -/
theorem RR.sM {LR : LRT} {σ μ μ' : St} (h : RR LR σ μ) (e1 : μ' 1 = μ 1) (e2 : μ' 2 = μ 2) (e4 : μ' 4 = μ 4) (e5 : μ' 5 = μ 5) (s3 : μ' 0 3 = μ 0 3) (s6 : μ' 0 6 = μ 0 6) (s8 : μ' 0 8 = μ 0 8) (s12 : μ' 0 12 = μ 0 12) (hf : RFl μ → RFl μ') : RR LR σ μ' := by
  obtain ⟨h1, h2, h3, h4, ⟨hg, h5⟩, h6⟩ := h
  unfold RTe at h2
  unfold RAe at h4
  unfold RR RTe RAe RIe
  rw [e1, e2, e4, e5, s3, s6, s8, s12]
  exact ⟨h1, h2, h3, h4, ⟨hf hg, h5⟩, h6⟩
theorem RR.thr {LR : LRT} {σ μ : St} (h : RR LR σ μ) {k : Nat} {x : Int32} (hk : k ≠ 3) (hk2 : k ≠ 6) (hk3 : k ≠ 8) (hk4 : k ≠ 12) (hk5 : k ≠ 15) (hk6 : k ≠ 16) (hk7 : k ≠ 18) : RR LR σ (up μ 0 k x) := h.sM (up_pl (by decide)) (up_pl (by decide)) (up_pl (by decide)) (up_pl (by decide)) (up_off (Ne.symm hk)) (up_off (Ne.symm hk2)) (up_off (Ne.symm hk3)) (up_off (Ne.symm hk4)) (fun h => h.eq (up_off (Ne.symm hk5)) (up_off (Ne.symm hk6)) (up_off (Ne.symm hk7)))
def keepC (i : Nat) : Prop := i = 0 ∨ i = 2 ∨ i = 5 ∨ i = 33 ∨ i = 40 ∨ i = 41 ∨ (44 ≤ i ∧ i < 54) ∨ (64 ≤ i ∧ i < 194)
/-- scratch of the class may change -/
theorem RR.sC {LR : LRT} {σ σ' μ : St} (h : RR LR σ μ) (e : ∀ i, keepC i → σ' i = σ i) (e1 : σ' 1 1 = σ 1 1) (e2 : σ' 32 3 = σ 32 3) (e3 : σ' 32 4 = σ 32 4) : RR LR σ' μ := by
  obtain ⟨h1, h2, h3, h4, h5, h6⟩ := h
  refine ⟨?_, ?_, ?_, ?_, ?_, ?_⟩
  · refine h1.to ⟨?_, ?_, ?_, ?_, ?_, ?_, ?_⟩ <;> intros <;> (try show σ' _ _ = σ _ _) <;> rw [e _ (by unfold keepC; omega)]
  · unfold RTe at h2 ⊢
    rw [e1, e 2 (by unfold keepC; omega)]
    exact h2
  · rw [e 0 (by unfold keepC; omega)]; exact h3
  · unfold RAe at h4 ⊢
    rw [e 5 (by unfold keepC; omega)]
    obtain ⟨A, f, a1, a2, a3, a4, a5, a6⟩ := h4
    refine ⟨A, f, a1, a2, a3, a4, a5, fun a ha => ⟨(a6 a ha).1.to ?_, (a6 a ha).2⟩⟩
    have hm : (f + 12 - A + a) % 12 < 12 := Nat.mod_lt _ (by omega)
    generalize (f + 12 - A + a) % 12 = j at hm
    refine ⟨?_, ?_, ?_, ?_, ?_, ?_, ?_⟩ <;> intros <;> (try show σ' _ _ = σ _ _) <;> rw [e _ (by unfold keepC; omega)]
  · unfold RIe at h5 ⊢
    rw [e 0 (by unfold keepC; omega), e 40 (by unfold keepC; omega), e 41 (by unfold keepC; omega)]
    refine ⟨h5.1, h5.2.imp id (fun q => ⟨q.1, q.2.1, q.2.2.1.to ?_, q.2.2.2⟩)⟩
    refine ⟨?_, ?_, ?_, ?_, ?_, ?_, ?_⟩ <;> intros <;> (try show σ' _ _ = σ _ _) <;> rw [e _ (by unfold keepC; omega)]
  · rw [e2, e3, e 33 (by unfold keepC; omega)]; exact h6

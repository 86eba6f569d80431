/-! LAYER 2: HOUSES -/
theorem and_one (z : Int32) : decide (z &&& 1 = 1) = z.toBitVec.getLsbD 0 := by
  have e : (z &&& 1 = 1) ↔ z.toBitVec &&& 1#32 = 1#32 := by
    rw [← Int32.toBitVec_inj, Int32.toBitVec_and]
    exact Iff.rfl
  have h : z.toBitVec &&& 1#32 = BitVec.setWidth 32 (BitVec.ofBool (z.toBitVec.getLsbD 0)) := BitVec.and_one_eq_setWidth_ofBool_getLsbD
  have e2 : (z &&& 1 = 1) ↔ z.toBitVec.getLsbD 0 = true := by
    rw [e, h]
    cases z.toBitVec.getLsbD 0 <;> decide
  rw [Bool.eq_iff_iff, decide_eq_true_eq, e2]
theorem isIn_lsb (s : Int32) {k : Nat} (hk : k < 6) : q11_isIn s (nI k) = s.toBitVec.getLsbD k := by
  unfold q11_isIn shr
  have h2 : ((nI k &&& 31).toBitVec.smod 32).toNat = k := by
    rcases (show k = 0 ∨ k = 1 ∨ k = 2 ∨ k = 3 ∨ k = 4 ∨ k = 5 by omega) with rfl | rfl | rfl | rfl | rfl | rfl <;> decide
  rw [and_one, Int32.toBitVec_shiftRight, BitVec.sshiftRight_eq', h2, BitVec.getLsbD_sshiftRight]
  have h3 : k < 32 := by omega
  simp [h3]
theorem isIn_and (x y : Int32) {k : Nat} (hk : k < 6) : q11_isIn (x &&& y) (nI k) = (q11_isIn x (nI k) && q11_isIn y (nI k)) := by
  rw [isIn_lsb _ hk, isIn_lsb _ hk, isIn_lsb _ hk, Int32.toBitVec_and, BitVec.getLsbD_and]
theorem isIn_not (x : Int32) {k : Nat} (hk : k < 6) : q11_isIn (x ^^^ (-1)) (nI k) = !q11_isIn x (nI k) := by
  rw [isIn_lsb _ hk, isIn_lsb _ hk, Int32.toBitVec_xor, BitVec.getLsbD_xor]
  have e : (-1 : Int32).toBitVec.getLsbD k = true := by
    rcases (show k = 0 ∨ k = 1 ∨ k = 2 ∨ k = 3 ∨ k = 4 ∨ k = 5 by omega) with rfl | rfl | rfl | rfl | rfl | rfl <;> decide
  rw [e, Bool.xor_true]
theorem isIn_all : ∀ n, n < 7 → ∀ k, k < n → q11_isIn (shl 1 (nI n) - 1) (nI k) = true := by decide +kernel
theorem isIn_bs {f : Nat → Bool} {n k : Nat} (hn : n ≤ 6) (hk : k < n) : q11_isIn (nI (bs f n)) (nI k) = f k := by
  rw [isIn_bit _ (bs_le hn f) k (by omega), bs_bit f n k hk]
def sm (f : Nat → Nat) : Nat → Nat
  | 0 => 0
  | k + 1 => sm f k + f k
theorem sm_s {f : Nat → Nat} {k : Nat} : sm f (k + 1) = sm f k + f k := rfl
theorem sm_le {f : Nat → Nat} {c : Nat} (h : ∀ k, f k ≤ c) : ∀ n, sm f n ≤ c * n
  | 0 => Nat.le_refl _
  | n + 1 => by
    have := sm_le h n
    have := h n
    rw [sm_s, Nat.mul_succ]
    omega
theorem sm_congr {f g : Nat → Nat} : ∀ {n : Nat}, (∀ k, k < n → f k = g k) → sm f n = sm g n
  | 0, _ => rfl
  | n + 1, h => by rw [sm_s, sm_s, sm_congr (fun k hk => h k (by omega)), h n (by omega)]
def wtN (m : Nat → Int32) (p : Nat) : Nat := if 0 < m (14 + 7 * p + 5) then 2 else 1
theorem wtN_le {m : Nat → Int32} {p : Nat} : wtN m p ≤ 2 := by unfold wtN; split <;> omega
def fA (m : Nat → Int32) (s : Int32) (p : Nat) : Nat := if (q11_isIn s (nI p) && !fB m p) = true then wtN m p else 0
theorem fA_le {m : Nat → Int32} {s : Int32} (p : Nat) : fA m s p ≤ 2 := by
  unfold fA
  have := wtN_le (m := m) (p := p)
  split <;> omega
def fT (m : Nat → Int32) (p : Nat) : Nat := if fB m p = true then 0 else wtN m p
theorem fT_le {m : Nat → Int32} (p : Nat) : fT m p ≤ 2 := by
  unfold fT
  have := wtN_le (m := m) (p := p)
  split <;> omega
def car (m : Nat → Int32) (n : Nat) (s : Int32) : Bool := decide (sm (fT m) n < 2 * sm (fA m s) n)
theorem counts_ok {ν : St} {n : Nat} (s : Int32) (h3 : ν 1 3 = nI n) (hn : n ≤ 6) (hW : WFm (ν 1) n) : q12_countsOf ν s = some (nI (sm (fA (ν 1) s) n)) := by
  have h : Wo (q12_countsOf ν s) (fun r => r = nI (sm (fA (ν 1) s) n)) := by
    unfold q12_countsOf
    dsimp only [lt]
    refine wo_st (those4 h3 hn hW) ?_
    refine wo_bind ?_
    refine lpW2 n (fun k a p => p = nI k ∧ a = nI (sm (fA (ν 1) s) k)) ?_ fuelN 0 0 0 (Nat.zero_le _) (fuel_ok (by omega)) ⟨rfl, rfl⟩
    rintro rec k a p hk ⟨rfl, rfl⟩ IH
    refine wo_st ag3 ?_
    rw [h3]
    refine wo_ite (fun hlt => ?_) (fun hge => ?_)
    · have hkn : k < n := (nI_ltI (by omega) (by omega)).mp hlt
      rw [isOf_isIn, isIn_and _ _ (by omega), isIn_not _ (by omega), isIn_bs hn hkn, of5 (by omega)]
      have hf : fA (ν 1) s k = if (q11_isIn s (nI k) && !fB (ν 1) k) = true then wtN (ν 1) k else 0 := rfl
      simp only [Option.bind_some]
      by_cases hc : (q11_isIn s (nI k) && !fB (ν 1) k) = true
      · rw [if_pos hc] at hf ⊢
        by_cases h0 : 0 < ν 1 (14 + 7 * k + 5)
        · simp only [if_pos h0, Option.bind_some]
          have hw : wtN (ν 1) k = 2 := if_pos h0
          rw [show (2 : Int32) = nI 2 from rfl, nI_add, nI_1]
          exact IH _ _ hkn ⟨rfl, by rw [sm_s, hf, hw]⟩
        · simp only [if_neg h0, Option.bind_some]
          have hw : wtN (ν 1) k = 1 := if_neg h0
          rw [show (1 : Int32) = nI 1 from rfl, nI_add, nI_add]
          exact IH _ _ hkn ⟨rfl, by rw [sm_s, hf, hw]⟩
      · rw [if_neg hc] at hf ⊢
        simp only [Option.bind_some]
        rw [Int32.add_zero, nI_1]
        exact IH _ _ hkn ⟨rfl, by rw [sm_s, hf, Nat.add_zero]⟩
    · have : k = n := by
        have : ¬ k < n := fun q => hge (nI_lt q (by omega))
        omega
      subst this
      exact wo_some (wo_some rfl)
  obtain ⟨r, e, rfl⟩ := h
  exact e
theorem carry_ok {ν : St} {n : Nat} (s : Int32) (h3 : ν 1 3 = nI n) (hn : n ≤ 6) (hW : WFm (ν 1) n) : q12_doesCarry ν s = some (car (ν 1) n s) := by
  unfold q12_doesCarry
  rw [all_ok h3]
  simp only [Option.bind_some]
  rw [counts_ok _ h3 hn hW, counts_ok _ h3 hn hW]
  simp only [Option.bind_some]
  have e1 : sm (fA (ν 1) (s &&& (shl 1 (nI n) - 1))) n = sm (fA (ν 1) s) n := sm_congr (fun k hk => by
    unfold fA
    rw [isIn_and _ _ (by omega), isIn_all n (by omega) k hk, Bool.and_true])
  have e2 : sm (fA (ν 1) (shl 1 (nI n) - 1)) n = sm (fT (ν 1)) n := sm_congr (fun k hk => by
    unfold fA fT
    rw [isIn_all n (by omega) k hk, Bool.true_and]
    cases fB (ν 1) k <;> rfl)
  have b1 := sm_le (fA_le (m := ν 1) (s := s)) n
  have b2 := sm_le (fT_le (m := ν 1)) n
  rw [e1, e2, show (2 : Int32) = nI 2 from rfl, pk_mul]
  unfold car
  by_cases hc : sm (fT (ν 1)) n < 2 * sm (fA (ν 1) s) n
  · rw [if_pos (nI_lt hc (by omega)), decide_eq_true hc]
    rfl
  · rw [if_neg (fun q => hc ((nI_ltI (by omega) (by omega)).mp q)), decide_eq_false hc]
    rfl
theorem most_ok {σ μ : St} {n : Nat} (s : Int32) (hV : RVd (vd σ 44) (μ 1) n) : q11_hasMost σ s = some (car (μ 1) n s) := by
  have hn := hV.1.1
  have h8 : σ 44 8 = nI n := hV.1.2.1
  have h : Wo (q11_hasMost σ s) (fun r => r = car (μ 1) n s) := by
    unfold q11_hasMost
    dsimp only [lt]
    refine wo_bind ?_
    refine lpW2 n (fun k a p => p = nI k ∧ a = nI (sm (fA (μ 1) s) k) - nI (sm (fT (μ 1)) k - sm (fA (μ 1) s) k) ∧ sm (fA (μ 1) s) k ≤ sm (fT (μ 1)) k) ?_ fuelN 0 0 0 (Nat.zero_le _) (fuel_ok (by omega)) ⟨rfl, (show (0 : Int32) = nI 0 - nI (0 - 0) by decide), Nat.le_refl _⟩
    rintro rec k a p hk ⟨rfl, rfl, hle⟩ IH
    rw [h8]
    refine wo_ite (fun hlt => ?_) (fun hge => ?_)
    · have hkn : k < n := (nI_ltI (by omega) (by omega)).mp hlt
      rw [hV.hb hkn]
      have hf : fA (μ 1) s k = if (q11_isIn s (nI k) && !fB (μ 1) k) = true then wtN (μ 1) k else 0 := rfl
      have ht : fT (μ 1) k = if fB (μ 1) k = true then 0 else wtN (μ 1) k := rfl
      have hwt : q11_weightOf σ (nI k) = some (nI (wtN (μ 1) k)) := by
        unfold q11_weightOf wtN
        rw [hV.h4 hkn]
        simp only [Option.bind_some]
        by_cases h0 : 0 < μ 1 (14 + 7 * k + 5)
        · rw [if_pos h0, if_pos h0]; rfl
        · rw [if_neg h0, if_neg h0]; rfl
      cases hb : fB (μ 1) k with
      | true =>
        rw [hb] at hf ht
        simp only [not_true_eq_false, if_false, Option.bind_some]
        rw [nI_1]
        refine IH _ _ hkn ⟨rfl, ?_, ?_⟩
        · rw [sm_s, sm_s, hf, ht, Bool.not_true, Bool.and_false, if_neg (by decide), if_pos rfl, Nat.add_zero, Nat.add_zero]
        · rw [sm_s, sm_s, hf, ht, Bool.not_true, Bool.and_false, if_neg (by decide), if_pos rfl]
          omega
      | false =>
        rw [hb] at hf ht
        rw [Bool.not_false, Bool.and_true] at hf
        rw [if_neg (by decide)] at ht
        simp only [Bool.false_eq_true, not_false_eq_true, if_true]
        rw [hwt]
        by_cases hc : q11_isIn s (nI k) = true
        · rw [if_pos hc] at hf
          simp only [if_pos hc, Option.bind_some]
          rw [nI_1]
          refine IH _ _ hkn ⟨rfl, ?_, ?_⟩
          · rw [sm_s, sm_s, hf, ht, ← nI_add, show sm (fT (μ 1)) k + wtN (μ 1) k - (sm (fA (μ 1) s) k + wtN (μ 1) k) = sm (fT (μ 1)) k - sm (fA (μ 1) s) k from by omega]
            generalize nI (sm (fA (μ 1) s) k) = x
            generalize nI (wtN (μ 1) k) = y
            generalize nI (sm (fT (μ 1)) k - sm (fA (μ 1) s) k) = z
            rw [Int32.sub_eq_add_neg, Int32.sub_eq_add_neg, Int32.add_assoc, Int32.add_assoc, Int32.add_comm (-z)]
          · rw [sm_s, sm_s, hf, ht]
            omega
        · rw [if_neg hc] at hf
          simp only [if_neg hc, Option.bind_some]
          rw [nI_1]
          refine IH _ _ hkn ⟨rfl, ?_, ?_⟩
          · rw [sm_s, sm_s, hf, ht, Nat.add_zero, show sm (fT (μ 1)) k + wtN (μ 1) k - sm (fA (μ 1) s) k = (sm (fT (μ 1)) k - sm (fA (μ 1) s) k) + wtN (μ 1) k from by omega, ← nI_add]
            generalize nI (sm (fA (μ 1) s) k) = x
            generalize nI (wtN (μ 1) k) = y
            generalize nI (sm (fT (μ 1)) k - sm (fA (μ 1) s) k) = z
            rw [Int32.sub_eq_add_neg, Int32.sub_eq_add_neg, Int32.neg_add, Int32.add_assoc, Int32.sub_eq_add_neg]
          · rw [sm_s, sm_s, hf, ht]
            omega
    · have : k = n := by
        have : ¬ k < n := fun q => hge (nI_lt q (by omega))
        omega
      subst this
      refine wo_some (wo_some ?_)
      have b1 := sm_le (fA_le (m := μ 1) (s := s)) k
      have b2 := sm_le (fT_le (m := μ 1)) k
      unfold car
      apply decide_eq_decide.mpr
      show 0 < nI (sm (fA (μ 1) s) k) - nI (sm (fT (μ 1)) k - sm (fA (μ 1) s) k) ↔ _
      rw [Int32.lt_iff_toInt_lt, pk_sub_toInt (by omega) (by omega)]
      show (0 : Int) < _ ↔ _
      omega
  obtain ⟨r, e, rfl⟩ := h
  exact e
theorem op_carries {LR : LRT} : Op_carries (RR LR) := by
  intro σ μ hR s
  obtain ⟨n, ⟨hn, h8, h3⟩, hV, hW⟩ := hR.nn
  refine ⟨car (μ 1) n s, (car (μ 1) n s, up μ 0 0 0), ?_, ?_, rfl, hR.t0⟩
  · unfold q11_carries
    rw [most_ok s hV]
    rfl
  · unfold q12_carries
    dsimp only [lt]
    rw [carry_ok (ν := up μ 0 0 0) s (by rw [up0_1]; exact h3) hn (by rw [up0_1]; exact hW), up0_1]
    rfl
/-! all sets -/
def hsN (b : Nat) (n k : Nat) : Bool := decide (nI k &&& (nI (2 ^ n - 1 - b) ^^^ (-1)) = 0)
theorem hs_in : ∀ n, n < 7 → ∀ b, b < 2 ^ n → ∀ k, k < 2 ^ n → decide (nI k &&& nI b = 0) = hsN b n k := by decide +kernel
theorem hs_out : ∀ n, n < 7 → ∀ b, b < 2 ^ n → ∀ k, k < 64 → 2 ^ n ≤ k → hsN b n k = false := by decide +kernel
theorem all_nI : ∀ n, n < 7 → shl 1 (nI n) - 1 = nI (2 ^ n - 1) := by decide +kernel
theorem house_ok {σ : St} {m : Nat → Int32} {n : Nat} (hV : RVd (vd σ 44) m n) (k : Nat) : q11_isHouse σ (nI k) = hsN (bs (fB m) n) n k := by
  have hn := hV.1.1
  have h8 : σ 44 8 = nI n := hV.1.2.1
  have h10 : σ 44 10 = nI (bs (fB m) n) := hV.2.2.1.2
  unfold q11_isHouse q10_present q10_everybody hsN
  rw [h8, h10, all_not n (by omega) _ (bs_le hn _) (bs_lt _ _)]
def pik (m : Nat → Int32) (n b : Nat) : Nat → Int32
  | 0 => -1
  | k + 1 => if hsN b n k = true ∧ car m n (nI k) = true ∧ (pik m n b k = -1 ∨ bcount (nI k) < bcount (pik m n b k)) then nI k else pik m n b k
theorem pik_s {m : Nat → Int32} {n b k : Nat} : pik m n b (k + 1) = if hsN b n k = true ∧ car m n (nI k) = true ∧ (pik m n b k = -1 ∨ bcount (nI k) < bcount (pik m n b k)) then nI k else pik m n b k := rfl
theorem pik_end {m : Nat → Int32} {n b : Nat} (hn : n < 7) (hb : b < 2 ^ n) : ∀ j, 2 ^ n + j ≤ 64 → pik m n b (2 ^ n + j) = pik m n b (2 ^ n)
  | 0, _ => rfl
  | j + 1, h => by
    rw [← Nat.add_assoc, pik_s, hs_out n hn b hb _ (by omega) (by omega), if_neg (fun q => absurd q.1 (by decide))]
    exact pik_end hn hb j (by omega)
theorem pik_in {m : Nat → Int32} {n b : Nat} : ∀ k, pik m n b k = -1 ∨ ∃ a, a < k ∧ pik m n b k = nI a
  | 0 => Or.inl rfl
  | k + 1 => by
    rw [pik_s]
    split
    · exact Or.inr ⟨k, by omega, rfl⟩
    · exact (pik_in k).imp id (fun ⟨a, h1, h2⟩ => ⟨a, by omega, h2⟩)
theorem pow_le6 {n : Nat} (h : n ≤ 6) : 2 ^ n ≤ 64 := by
  show 2 ^ n ≤ 2 ^ 6
  exact Nat.pow_le_pow_right (by omega) h
theorem op_smallest {LR : LRT} : Op_smallest (RR LR) := by
  intro σ μ hR
  obtain ⟨n, ⟨hn, h8, h3⟩, hV, hW⟩ := hR.nn
  have hb := bs_lt (fB (μ 1)) n
  have hp := pow_le6 hn
  have hpp : 0 < 2 ^ n := Nat.pow_pos (by omega)
  have hC : Wo (q11_smallest σ) (fun r => r = pik (μ 1) n (bs (fB (μ 1)) n) 64) := by
    unfold q11_smallest
    dsimp only [lt]
    refine wo_bind ?_
    refine lpW2 64 (fun k a p => p = nI k ∧ a = pik (μ 1) n (bs (fB (μ 1)) n) k) ?_ fuelN 0 (-1) 0 (Nat.zero_le _) (fuel_ok (by omega)) ⟨rfl, rfl⟩
    rintro rec k a p hk ⟨rfl, rfl⟩ IH
    refine wo_ite (fun hlt => ?_) (fun hge => ?_)
    · have hkn : k < 64 := (nI_ltI (b := 64) (by omega) (by omega)).mp hlt
      rw [house_ok hV, most_ok _ hV]
      simp only [Option.bind_some, decide_eq_true_eq]
      have hs := pik_s (m := μ 1) (n := n) (b := bs (fB (μ 1)) n) (k := k)
      generalize pik (μ 1) n (bs (fB (μ 1)) n) k = x at hs IH ⊢
      by_cases c1 : x = -1 ∨ bcount (nI k) < bcount x
      · rw [if_pos c1]
        by_cases c2 : hsN (bs (fB (μ 1)) n) n k = true
        · rw [if_pos c2]
          by_cases c3 : car (μ 1) n (nI k) = true
          · rw [if_pos ⟨c2, c3, c1⟩] at hs
            rw [if_pos c3]
            simp only [Option.bind_some, if_true]
            rw [nI_1]
            exact IH _ _ hkn ⟨rfl, hs.symm⟩
          · rw [if_neg (fun q => c3 q.2.1)] at hs
            rw [if_neg c3]
            simp only [Option.bind_some, Bool.false_eq_true, if_false]
            rw [nI_1]
            exact IH _ _ hkn ⟨rfl, hs.symm⟩
        · rw [if_neg (fun q => c2 q.1)] at hs
          rw [if_neg c2]
          simp only [Option.bind_some, Bool.false_eq_true, if_false]
          rw [nI_1]
          exact IH _ _ hkn ⟨rfl, hs.symm⟩
      · rw [if_neg (fun q => c1 q.2.2)] at hs
        rw [if_neg c1]
        simp only [Option.bind_some, Bool.false_eq_true, if_false]
        rw [nI_1]
        exact IH _ _ hkn ⟨rfl, hs.symm⟩
    · have : k = 64 := by
        have : ¬ k < 64 := fun q => hge (nI_lt (b := 64) q (by omega))
        omega
      subst this
      exact wo_some (wo_some rfl)
  have hM : Wo (q12_smallest μ) (fun r => r.1 = pik (μ 1) n (bs (fB (μ 1)) n) (2 ^ n) ∧ r.2 = up μ 0 0 0) := by
    unfold q12_smallest
    dsimp only [lt]
    have t4 := those4 (μ := up μ 0 0 0) (by rw [up0_1]; exact h3) hn (by rw [up0_1]; exact hW)
    rw [up0_1] at t4
    refine wo_st t4 ?_
    refine wo_bind ?_
    refine lpW2 (2 ^ n) (fun k a p => p = nI k ∧ a = pik (μ 1) n (bs (fB (μ 1)) n) k) ?_ fuelN 0 (-1) 0 (Nat.zero_le _) (fuel_ok (by omega)) ⟨rfl, rfl⟩
    rintro rec k a p hk ⟨rfl, rfl⟩ IH
    refine wo_st (all_ok (n := n) (by rw [up0_1]; exact h3)) ?_
    rw [all_nI n (by omega)]
    by_cases hkn : k < 2 ^ n
    · rw [if_pos (nI_le (by omega) (by omega))]
      have hh : (nI k &&& nI (bs (fB (μ 1)) n) = 0) ↔ hsN (bs (fB (μ 1)) n) n k = true := by
        rw [← hs_in n (by omega) _ hb k hkn, decide_eq_true_eq]
      have hs := pik_s (m := μ 1) (n := n) (b := bs (fB (μ 1)) n) (k := k)
      have hx := pik_in (m := μ 1) (n := n) (b := bs (fB (μ 1)) n) k
      generalize pik (μ 1) n (bs (fB (μ 1)) n) k = x at hs hx IH ⊢
      by_cases c2 : hsN (bs (fB (μ 1)) n) n k = true
      · rw [if_pos (hh.mpr c2), carry_ok (ν := up μ 0 0 0) _ (by rw [up0_1]; exact h3) hn (by rw [up0_1]; exact hW), up0_1]
        simp only [Option.bind_some]
        by_cases c3 : car (μ 1) n (nI k) = true
        · rw [if_pos c3]
          by_cases c1 : x = -1
          · rw [if_pos ⟨c2, c3, Or.inl c1⟩] at hs
            rw [if_pos c1]
            simp only [Option.bind_some, if_true]
            rw [nI_1]
            exact IH _ _ hkn ⟨rfl, hs.symm⟩
          · obtain ⟨a, ha, rfl⟩ := hx.resolve_left c1
            rw [if_neg c1, bits_ok (by omega), bits_ok (by omega)]
            simp only [Option.bind_some]
            by_cases c4 : bcount (nI k) < bcount (nI a)
            · rw [if_pos ⟨c2, c3, Or.inr c4⟩] at hs
              rw [if_pos c4]
              simp only [Option.bind_some, if_true]
              rw [nI_1]
              exact IH _ _ hkn ⟨rfl, hs.symm⟩
            · rw [if_neg (fun q => q.2.2.elim c1 c4)] at hs
              rw [if_neg c4]
              simp only [Option.bind_some, Bool.false_eq_true, if_false]
              rw [nI_1]
              exact IH _ _ hkn ⟨rfl, hs.symm⟩
        · rw [if_neg (fun q => c3 q.2.1)] at hs
          rw [if_neg c3]
          simp only [Option.bind_some, Bool.false_eq_true, if_false]
          rw [nI_1]
          exact IH _ _ hkn ⟨rfl, hs.symm⟩
      · rw [if_neg (fun q => c2 q.1)] at hs
        rw [if_neg (fun q => c2 (hh.mp q))]
        simp only [Option.bind_some, Bool.false_eq_true, if_false]
        rw [nI_1]
        exact IH _ _ hkn ⟨rfl, hs.symm⟩
    · have : k = 2 ^ n := by omega
      subst this
      rw [if_neg (fun q => by
        have := (nI_leI (by omega) (by omega)).mp q
        omega)]
      exact wo_some (wo_some ⟨rfl, rfl⟩)
  obtain ⟨r1, e1, rfl⟩ := hC
  obtain ⟨r2, e2, h2, h4⟩ := hM
  refine ⟨_, r2, e1, e2, ?_, by rw [h4]; exact hR.t0⟩
  rw [h2, ← pik_end (by omega) hb (64 - 2 ^ n) (by omega), show 2 ^ n + (64 - 2 ^ n) = 64 from by omega]

/-! LAYER 2: CHECKS AND READS -/
theorem lt0 : ¬ (0 : Int32) < 0 := by decide
theorem lt01 : (0 : Int32) < 1 := by decide
theorem lt02 : (0 : Int32) < 2 := by decide
theorem lt03 : (0 : Int32) < 3 := by decide
theorem pred_toInt {n : Nat} (h : n < 2 ^ 30) : (nI n - 1).toInt = (n : Int) - 1 := pk_sub_toInt (a := n) (b := 1) h (by decide)
theorem m1_toInt : (-1 : Int32).toInt = -1 := by decide
theorem ag3 {μ : St} : ag μ 1 752 3 = some (μ 1 3) := ag_nI (k := 3) rfl (by decide) (by decide)
theorem ag_m {μ : St} {k : Nat} {j : Int32} (hj : j = nI k) (h : k < 752) : ag μ 1 752 j = some (μ 1 k) := ag_nI hj h (by decide)
theorem sa_m {μ : St} {k : Nat} {j x : Int32} (hj : j = nI k) (h : k < 752) : sa μ 1 752 j x = some (up μ 1 k x) := sa_nI hj h (by decide)
theorem ix_of (p w : Nat) : (14 : Int32) + 7 * nI p + nI w = nI (14 + 7 * p + w) := by
  show nI 14 + nI 7 * nI p + nI w = _
  rw [pk_mul, nI_add, nI_add]
theorem ix_w (p o : Nat) : (63 : Int32) + 7 * nI p + nI o = nI (63 + 7 * p + o) := by
  show nI 63 + nI 7 * nI p + nI o = _
  rw [pk_mul, nI_add, nI_add]
theorem ix_6 (p o : Nat) : nI p * 6 + nI o = nI (p * 6 + o) := by
  show nI p * nI 6 + nI o = _
  rw [pk_mul, nI_add]
theorem of_nI {μ : St} {p w : Nat} (hp : p < 50) (hw : w < 7) : q12_of μ (nI p) (nI w) = some (μ 1 (14 + 7 * p + w)) := by
  unfold q12_of
  rw [ag_m (ix_of p w) (by omega)]
  rfl
theorem of0 {μ : St} {p : Nat} (hp : p < 50) : q12_of μ (nI p) 0 = some (μ 1 (14 + 7 * p)) := of_nI (w := 0) hp (by omega)
theorem of1 {μ : St} {p : Nat} (hp : p < 50) : q12_of μ (nI p) 1 = some (μ 1 (14 + 7 * p + 1)) := of_nI (w := 1) hp (by omega)
theorem of2 {μ : St} {p : Nat} (hp : p < 50) : q12_of μ (nI p) 2 = some (μ 1 (14 + 7 * p + 2)) := of_nI (w := 2) hp (by omega)
theorem of3 {μ : St} {p : Nat} (hp : p < 50) : q12_of μ (nI p) 3 = some (μ 1 (14 + 7 * p + 3)) := of_nI (w := 3) hp (by omega)
theorem of4 {μ : St} {p : Nat} (hp : p < 50) : q12_of μ (nI p) 4 = some (μ 1 (14 + 7 * p + 4)) := of_nI (w := 4) hp (by omega)
theorem of5 {μ : St} {p : Nat} (hp : p < 50) : q12_of μ (nI p) 5 = some (μ 1 (14 + 7 * p + 5)) := of_nI (w := 5) hp (by omega)
theorem of6 {μ : St} {p : Nat} (hp : p < 50) : q12_of μ (nI p) 6 = some (μ 1 (14 + 7 * p + 6)) := of_nI (w := 6) hp (by omega)
theorem lays_nI {μ : St} {p w : Nat} {x : Int32} (hp : p < 50) (hw : w < 7) : q12_lays μ (nI p) (nI w) x = some (up μ 1 (14 + 7 * p + w) x) := by
  unfold q12_lays
  rw [sa_m (ix_of p w) (by omega)]
  rfl
theorem nIe {p o : Nat} (hp : p < 2 ^ 31) (ho : o < 2 ^ 31) (h : p ≠ o) : ¬ nI p = nI o := fun e => h ((nI_eq hp ho).mp e)
theorem liking_ne {μ : St} {p o : Nat} (hp : p < 50) (ho : o < 50) (h : p ≠ o) : q12_liking μ (nI p) (nI o) = some (μ 1 (63 + 7 * p + o)) := by
  unfold q12_liking
  rw [if_neg (nIe (by omega) (by omega) h), ag_m (ix_w p o) (by omega)]
  rfl
theorem liking_eq {μ : St} {p : Int32} : q12_liking μ p p = some 9 := by
  unfold q12_liking
  rw [if_pos rfl]
  rfl
theorem likingOf_ne {σ : St} {v p o : Nat} (hp : p < 6) (ho : o < 6) (h : p ≠ o) : q10_likingOf σ v (nI p) (nI o) = some (σ (v + 6) (p * 6 + o)) := by
  unfold q10_likingOf
  rw [if_neg (nIe (by omega) (by omega) h), ag_nI (ix_6 p o) (by omega) (by decide)]
  rfl
theorem likingOf_eq {σ : St} {v : Nat} {p : Int32} : q10_likingOf σ v p p = some 9 := by
  unfold q10_likingOf
  rw [if_pos rfl]
  rfl
/-- the people's number on both sides -/
def NN (σ μ : St) (n : Nat) : Prop := n ≤ 6 ∧ σ 44 8 = nI n ∧ μ 1 3 = nI n
theorem isOne_eq {μ : St} {p : Int32} : q12_isOne μ p = some (q12_isIn p 0 (μ 1 3 - 1)) := by
  unfold q12_isOne
  rw [ag3]
  rfl
theorem one_cases {σ μ : St} {n : Nat} (h : NN σ μ n) (p : Int32) : (q11_needPerson σ p = some 2 ∧ q12_isOne μ p = some false) ∨ ∃ i, i < n ∧ p = nI i ∧ q11_needPerson σ p = none ∧ q12_isOne μ p = some true := by
  obtain ⟨hn, h8, h3⟩ := h
  rw [isOne_eq, h3]
  unfold q11_needPerson q12_isIn
  rw [h8]
  have hP := pred_toInt (n := n) (by omega)
  rcases pk_ix p (n := n) (by omega) with hp | hp | ⟨i, hi, rfl⟩
  · refine Or.inl ⟨if_pos (Or.inl hp), ?_⟩
    rw [decide_eq_false]
    rintro ⟨h1, -⟩
    exact Int32.not_le.mpr hp h1
  · refine Or.inl ⟨if_pos (Or.inr hp), ?_⟩
    rw [decide_eq_false]
    rintro ⟨-, h2⟩
    rw [Int32.le_iff_toInt_le] at h2 hp
    rw [hP] at h2
    rw [nI_toInt (by omega)] at hp
    omega
  · refine Or.inr ⟨i, hi, rfl, if_neg ?_, ?_⟩
    · rintro (h1 | h1)
      · exact nI_pos (by omega) h1
      · exact nI_ge hi (by omega) h1
    · rw [decide_eq_true]
      refine ⟨nI_pos' (by omega), ?_⟩
      rw [Int32.le_iff_toInt_le, hP, nI_toInt (by omega)]
      omega
theorem two_cases {σ μ : St} {n : Nat} (h : NN σ μ n) (p o : Int32) : (q11_needTwo σ p o = some 2 ∧ q12_areTwo μ p o = some (up μ 0 0 1)) ∨ (q11_needTwo σ p o = some 0 ∧ q12_areTwo μ p o = some (up μ 0 0 2)) ∨ ∃ i j, i < n ∧ j < n ∧ i ≠ j ∧ p = nI i ∧ o = nI j ∧ q11_needTwo σ p o = none ∧ q12_areTwo μ p o = some (up μ 0 0 0) := by
  unfold q11_needTwo q12_areTwo
  rcases one_cases h p with ⟨h1, h2⟩ | ⟨i, hi, rfl, h1, h2⟩
  · left
    rw [h1, h2]
    exact ⟨rfl, rfl⟩
  · rcases one_cases h o with ⟨h3, h4⟩ | ⟨j, hj, rfl, h3, h4⟩
    · left
      rw [h1, h2, h3, h4]
      exact ⟨rfl, rfl⟩
    · right
      have hn := h.1
      rw [h1, h2, h3, h4]
      by_cases hij : i = j
      · left
        subst hij
        refine ⟨?_, ?_⟩
        · show (if nI i = nI i then some 0 else none) = some 0
          rw [if_pos rfl]
        · show some (up μ 0 0 (if nI i = nI i then 2 else 0)) = _
          rw [if_pos rfl]
      · right
        refine ⟨i, j, hi, hj, hij, rfl, rfl, ?_, ?_⟩
        · show (if nI i = nI j then some 0 else none) = none
          rw [if_neg (nIe (by omega) (by omega) hij)]
        · show some (up μ 0 0 (if nI i = nI j then 2 else 0)) = _
          rw [if_neg (nIe (by omega) (by omega) hij)]
theorem num_cases (x lo hi : Int32) : (q11_needNumber x lo hi = some 0 ∧ q12_isIn x lo hi = false) ∨ (q11_needNumber x lo hi = none ∧ q12_isIn x lo hi = true ∧ lo ≤ x ∧ x ≤ hi) := by
  unfold q11_needNumber q12_isIn
  by_cases h1 : x < lo
  · exact Or.inl ⟨if_pos (Or.inl h1), decide_eq_false (fun q => Int32.not_le.mpr h1 q.1)⟩
  · by_cases h2 : hi < x
    · exact Or.inl ⟨if_pos (Or.inr h2), decide_eq_false (fun q => Int32.not_le.mpr h2 q.2)⟩
    · exact Or.inr ⟨if_neg (fun q => q.elim h1 h2), decide_eq_true ⟨Int32.not_lt.mp h1, Int32.not_lt.mp h2⟩, Int32.not_lt.mp h1, Int32.not_lt.mp h2⟩
theorem sx_thr {R : Type} {hs : List Nat} {e i : Nat} {v : R} {σ μ : St} {x : Int32} (he : e ∈ hs) (hi : hs.idxOf e = i) (hx : x = nI (i + 1)) : Sx hs (.inl e, σ) (v, up μ 0 0 x) := by
  show e ∈ hs ∧ up μ 0 0 x 0 0 = nI (hs.idxOf e + 1)
  rw [hi, up_at]
  exact ⟨he, hx⟩
theorem sx_ok {R : Type} {hs : List Nat} {v : R} {σ μ : St} (h : μ 0 0 = 0) : Sx hs (.inr v, σ) (v, μ) := ⟨h, rfl⟩
theorem RR.nn {LR : LRT} {σ μ : St} (h : RR LR σ μ) : ∃ n, NN σ μ n ∧ RVd (vd σ 44) (μ 1) n ∧ WFm (μ 1) n := by
  obtain ⟨n, hV, hW⟩ := h.1
  exact ⟨n, ⟨hV.1.1, hV.1.2.1, hV.1.2.2⟩, hV, hW⟩
theorem RR.t0 {LR : LRT} {σ μ : St} (h : RR LR σ μ) {x : Int32} : RR LR σ (up μ 0 0 x) := h.thr (by decide) (by decide) (by decide) (by decide) (by decide) (by decide) (by decide)

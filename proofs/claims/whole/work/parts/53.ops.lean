/-! LAYER 2: READS OF A VILLAGE -/
section
variable {σ : St} {v n k : Nat} {m : Nat → Int32}
theorem RVd.h1 (hV : RVd (vd σ v) m n) (hk : k < n) : ag σ (v + 1) 6 (nI k) = some (m (14 + 7 * k)) := by
  have hn := hV.1.1
  rw [ag_nI rfl (by omega) (by decide)]
  exact congrArg some (hV.2.1 k hk).1
theorem RVd.h2 (hV : RVd (vd σ v) m n) (hk : k < n) : ag σ (v + 2) 6 (nI k) = some (m (14 + 7 * k + 1)) := by
  have hn := hV.1.1
  rw [ag_nI rfl (by omega) (by decide)]
  exact congrArg some (hV.2.1 k hk).2.1
theorem RVd.h3 (hV : RVd (vd σ v) m n) (hk : k < n) : ag σ (v + 3) 6 (nI k) = some (m (14 + 7 * k + 2)) := by
  have hn := hV.1.1
  rw [ag_nI rfl (by omega) (by decide)]
  exact congrArg some (hV.2.1 k hk).2.2.1
theorem RVd.h4 (hV : RVd (vd σ v) m n) (hk : k < n) : ag σ (v + 4) 6 (nI k) = some (m (14 + 7 * k + 5)) := by
  have hn := hV.1.1
  rw [ag_nI rfl (by omega) (by decide)]
  exact congrArg some (hV.2.1 k hk).2.2.2.1
theorem RVd.h5 (hV : RVd (vd σ v) m n) (hk : k < n) : ag σ (v + 5) 6 (nI k) = some (m (14 + 7 * k + 6)) := by
  have hn := hV.1.1
  rw [ag_nI rfl (by omega) (by decide)]
  exact congrArg some (hV.2.1 k hk).2.2.2.2
theorem RVd.hs (hV : RVd (vd σ v) m n) (hk : k < n) : q11_isIn (σ v 9) (nI k) = fS m k := by
  have hn := hV.1.1
  have h9 : σ v 9 = nI (bs (fS m) n) := hV.2.2.1.1
  rw [h9, isIn_bit _ (bs_le hn _) k (by omega), bs_bit _ _ _ hk]
theorem RVd.hb (hV : RVd (vd σ v) m n) (hk : k < n) : q11_isIn (σ v 10) (nI k) = fB m k := by
  have hn := hV.1.1
  have h9 : σ v 10 = nI (bs (fB m) n) := hV.2.2.1.2
  rw [h9, isIn_bit _ (bs_le hn _) k (by omega), bs_bit _ _ _ hk]
theorem wB (hW : WFm m n) (hk : k < n) : (m (14 + 7 * k + 4) = 0 ∧ fB m k = false) ∨ (m (14 + 7 * k + 4) = 1 ∧ fB m k = true) := by
  obtain ⟨a, h1, h2⟩ := (hW.1 k hk).2.2.2.2.1
  unfold fB
  rcases (show a = 0 ∨ a = 1 by omega) with rfl | rfl
  · exact Or.inl ⟨h2, by rw [h2]; decide⟩
  · exact Or.inr ⟨h2, by rw [h2]; decide⟩
theorem wS (hW : WFm m n) (hk : k < n) : (m (14 + 7 * k + 3) = 0 ∧ fS m k = false) ∨ (m (14 + 7 * k + 3) = 1 ∧ fS m k = true) := by
  obtain ⟨a, h1, h2⟩ := (hW.1 k hk).2.2.2.1
  unfold fS
  rcases (show a = 0 ∨ a = 1 by omega) with rfl | rfl
  · exact Or.inl ⟨h2, by rw [h2]; decide⟩
  · exact Or.inr ⟨h2, by rw [h2]; decide⟩
end
theorem one_ne_zero32 : ¬ (1 : Int32) = 0 := by decide
theorem nI_m1 {k : Nat} (h : k < 2 ^ 31) : ¬ nI k = -1 := fun e => by
  have h1 := congrArg Int32.toInt e
  rw [nI_toInt h, m1_toInt] at h1
  omega
/-- the store of the reference with its mark set -/
theorem up0_1 {μ : St} {x : Int32} : up μ 0 0 x 1 = μ 1 := up_pl (by decide)
theorem op_fault {LR : LRT} : Op_fault (RR LR) := by
  intro σ μ hR
  refine ⟨(up μ 0 0 0 0 12, up μ 0 0 0), rfl, ?_, hR.t0⟩
  show σ 0 15 = up μ 0 0 0 0 12
  rw [up_off (by decide)]
  exact hR.2.2.1
theorem op_likes {LR : LRT} : Op_likes (RR LR) := by
  intro σ μ hR p o
  obtain ⟨n, hN, hV, hW⟩ := hR.nn
  unfold q11_likes q12_likes
  rcases two_cases hN p o with ⟨h1, h2⟩ | ⟨h1, h2⟩ | ⟨i, j, hi, hj, hij, rfl, rfl, h1, h2⟩
  · rw [h1, h2]
    exact ⟨(.inl 2, σ), (0, up μ 0 0 1), rfl, by simp only [Option.bind_some, up_at, if_pos lt01], sx_thr (i := 0) (by decide) (by decide) rfl, hR.t0⟩
  · rw [h1, h2]
    exact ⟨(.inl 0, σ), (0, up μ 0 0 2), rfl, by simp only [Option.bind_some, up_at, if_pos lt02], sx_thr (i := 1) (by decide) (by decide) rfl, hR.t0⟩
  · have hn := hN.1
    rw [h1, h2, likingOf_ne (by omega) (by omega) hij]
    refine ⟨(.inr (μ 1 (63 + 7 * i + j)), σ), (μ 1 (63 + 7 * i + j), up μ 0 0 0), ?_, ?_, sx_ok up_at, hR.t0⟩
    · have h9 : σ (44 + 6) (i * 6 + j) = μ 1 (63 + 7 * i + j) := hV.2.2.2.1 i j hi hj hij
      rw [h9]
      rfl
    · simp only [Option.bind_some, up_at, if_neg lt0]
      rw [liking_ne (by omega) (by omega) hij, up0_1]
      rfl
theorem op_grist {LR : LRT} : Op_grist (RR LR) := by
  intro σ μ hR q
  obtain ⟨n, hN, hV, hW⟩ := hR.nn
  unfold q11_grist q12_grist q12_isIn lt
  rcases pk_ix q (n := 4) (by omega) with hp | hp | ⟨i, hi, rfl⟩
  · rw [if_pos (Or.inl hp), decide_eq_false (fun h => Int32.not_le.mpr hp h.1)]
    exact ⟨(.inl 2, σ), (0, up μ 0 0 1), rfl, by simp only [Bool.false_eq_true, not_false_eq_true, if_true, Option.bind_some, up_at, if_pos lt01], sx_thr (i := 0) (by decide) (by decide) rfl, hR.t0⟩
  · have h4 : (4 : Int32) ≤ q := hp
    rw [if_pos (Or.inr h4), decide_eq_false (fun h => absurd (Int32.le_trans h4 h.2) (by decide))]
    exact ⟨(.inl 2, σ), (0, up μ 0 0 1), rfl, by simp only [Bool.false_eq_true, not_false_eq_true, if_true, Option.bind_some, up_at, if_pos lt01], sx_thr (i := 0) (by decide) (by decide) rfl, hR.t0⟩
  · rw [if_neg (fun h => h.elim (nI_pos (by omega)) (nI_ge (b := 4) hi (by omega))), decide_eq_true ⟨nI_pos' (by omega), nI_le (b := 3) (by omega) (by omega)⟩]
    refine ⟨(.inr (μ 1 (10 + i)), σ), (μ 1 (10 + i), up μ 0 0 0), ?_, ?_, sx_ok up_at, hR.t0⟩
    · rw [ag_nI rfl (by omega) (by decide)]
      have h9 : σ (44 + 7) i = μ 1 (10 + i) := hV.2.2.2.2.1 i hi
      rw [h9]
      rfl
    · simp only [not_true_eq_false, if_false, Option.bind_some, up_at, if_neg lt0]
      rw [ag_m (j := (10 : Int32) + nI i) (nI_add 10 i) (by omega), up0_1]
      rfl
theorem op_hungriest {LR : LRT} : Op_hungriest (RR LR) := by
  intro σ μ hR
  obtain ⟨n, ⟨hn, h8, h3⟩, hV, hW⟩ := hR.nn
  have key : R2 (q11_hungriest σ) (q12_hungriest μ) (fun a b => a = b.1 ∧ b.2 = up μ 0 0 0) := by
    unfold q11_hungriest q12_hungriest lt
    refine r2_bind ?_
    refine lpR22 n (fun k a p b q => p = nI k ∧ q = nI k ∧ a = b ∧ (a = -1 ∨ ∃ j, j < n ∧ a = nI j)) ?_ fuelN fuelN 0 (-1) 0 (-1) 0 (Nat.zero_le _) (fuel_ok (by omega)) (fuel_ok (by omega)) ⟨rfl, rfl, rfl, Or.inl rfl⟩
    rintro u v k a p b q hk ⟨rfl, rfl, rfl, ha⟩ IH
    refine r2_R ag3 ?_
    rw [h8, up0_1, h3]
    refine r2_ite Iff.rfl (fun hlt => ?_) (fun _ => r2_some (r2_some ⟨rfl, rfl⟩))
    have hkn : k < n := (nI_ltI (by omega) (by omega)).mp hlt
    rw [hV.hb hkn, of4 (by omega), up0_1]
    rcases wB hW hkn with ⟨hb1, hb2⟩ | ⟨hb1, hb2⟩
    · rw [hb2, hb1]
      simp only [Bool.false_eq_true, if_false, Option.bind_some, if_true]
      rcases ha with rfl | ⟨j, hj, rfl⟩
      · simp only [if_true, Option.bind_some]
        rw [nI_1]
        exact IH _ _ _ _ hkn ⟨rfl, rfl, rfl, Or.inr ⟨k, hkn, rfl⟩⟩
      · rw [if_neg (nI_m1 (by omega)), if_neg (nI_m1 (by omega)), hV.h1 hkn, hV.h1 hj, of0 (by omega), of0 (by omega), up0_1]
        simp only [Option.bind_some]
        by_cases hc : μ 1 (14 + 7 * j) < μ 1 (14 + 7 * k)
        · rw [if_pos hc]
          simp only [if_true, Option.bind_some]
          rw [nI_1]
          exact IH _ _ _ _ hkn ⟨rfl, rfl, rfl, Or.inr ⟨k, hkn, rfl⟩⟩
        · rw [if_neg hc]
          simp only [Bool.false_eq_true, if_false, Option.bind_some]
          rw [nI_1]
          exact IH _ _ _ _ hkn ⟨rfl, rfl, rfl, Or.inr ⟨j, hj, rfl⟩⟩
    · rw [hb2, hb1]
      simp only [if_true, Option.bind_some, if_neg one_ne_zero32, Bool.false_eq_true, if_false]
      rw [nI_1]
      exact IH _ _ _ _ hkn ⟨rfl, rfl, rfl, ha⟩
  obtain ⟨a, b, e1, e2, e3, e4⟩ := key
  exact ⟨a, b, e1, e2, e3, by rw [e4]; exact hR.t0⟩

/-! LAYER 2: ACTS REMEMBERED AND UNDONE -/
theorem kpt_nI {f : Nat} (h : f < 12) : kpt (nI f) = some (74 + 10 * f) := by
  unfold kpt
  rw [nI_clamp (by omega), if_neg]
  rintro (h1 | h1)
  · exact nI_pos (by omega) h1
  · omega
theorem irm_nI {a d : Nat} (ha : a < 2 ^ 31) (h0 : 0 < d) (hd : d < 2 ^ 31) : irm (nI a) (nI d) = nI (a % d) := pk_rem ha h0 hd
theorem imin_nI {a b : Nat} (ha : a < 2 ^ 31) (hb : b < 2 ^ 31) : imin (nI a) (nI b) = nI (min a b) := by
  unfold imin
  by_cases h : b < a
  · rw [if_pos (nI_lt h ha), Nat.min_eq_right (by omega)]
  · rw [if_neg (nI_nlt (by omega) hb), Nat.min_eq_left (by omega)]
theorem fmod12 : ∀ f, f < 12 → fmod (nI f - 1) 12 = nI ((f + 11) % 12) := by decide +kernel
/-- other places than the acts' -/
theorem remC {σ : St} {A f : Nat} (hA : A ≤ 12) (hf : f < 12) (h1 : σ 5 1 = nI A) (h2 : σ 5 2 = nI f) : Wo (q4_remember σ 44) (fun σ' => VE (vd σ 44) (vd σ' (74 + 10 * f)) ∧ σ' 5 1 = nI (min 12 (A + 1)) ∧ σ' 5 2 = nI ((f + 1) % 12) ∧ ∀ i, i ≠ 5 → (i < 74 + 10 * f ∨ 84 + 10 * f ≤ i) → σ' i = σ i) := by
  unfold q4_remember lt
  rw [h2]
  refine wo_st (kpt_nI hf) ?_
  refine wo_bind (wo_mono (bec_ok (σ := σ) (t := 74 + 10 * f) (s := 44) (by omega)) ?_)
  rintro ρ ⟨a1, a2⟩
  have e5 : ρ 5 = σ 5 := a2 5 (by omega)
  refine wo_some ⟨?_, ?_, ?_, fun i hi1 hi2 => ?_⟩
  · obtain ⟨b1, b2, b3, b4, b5, b6, b7⟩ := a1
    have e : ∀ j k, vd (up (up ρ 5 2 (irm (ρ 5 2 + 1) 12)) 5 1 (imin 12 (up ρ 5 2 (irm (ρ 5 2 + 1) 12) 5 1 + 1))) (74 + 10 * f) j k = vd ρ (74 + 10 * f) j k := fun j k => by
      show up _ _ _ _ (74 + 10 * f + j) k = ρ (74 + 10 * f + j) k
      rw [up_pl (by omega), up_pl (by omega)]
    exact ⟨fun j k x1 x2 x3 => (e j k).trans (b1 j k x1 x2 x3), fun k x => (e _ _).trans (b2 k x), fun k x => (e _ _).trans (b3 k x), (e _ _).trans b4, (e _ _).trans b5, fun k x => (e _ _).trans (b6 k x), fun k x y => (e _ _).trans (b7 k x y)⟩
  · rw [up_at, up_off (by decide), e5, h1]
    show imin (nI 12) (nI A + 1) = _
    rw [nI_1, imin_nI (by omega) (by omega)]
  · rw [up_off (by decide), up_at, e5, h2, nI_1]
    exact irm_nI (d := 12) (by omega) (by omega) (by omega)
  · rw [up_pl hi1, up_pl hi1]
    exact a2 i (by omega)
theorem remM {μ : St} {A : Nat} (hA : A ≤ 12) (h6 : μ 0 6 = nI A) : Wo (q12_remembers μ) (fun μ' => (∀ i, i ≠ 0 → i ≠ 4 → μ' i = μ i) ∧ (∀ k, k ≠ 6 → μ' 0 k = μ 0 k) ∧ μ' 0 6 = nI (min 12 (A + 1)) ∧ (∀ k, k < 352 → μ' 4 (352 * (min 12 (A + 1) - 1) + k) = μ 1 k) ∧ ∀ a k, a < min 12 (A + 1) - 1 → k < 352 → μ' 4 (352 * a + k) = μ 4 (352 * (if A = 12 then a + 1 else a) + k)) := by
  unfold q12_remembers
  have step : ∀ (ν : St) (B : Nat), B ≤ 11 → ν 0 6 = nI B → Wo (Option.bind (loop2 (fun rec33_ (k36_ : Int32) (σ37_ : St) =>
      if k36_ < 352 then
      Option.bind (ag σ37_ 1 752 k36_) fun x44_ =>
      Option.bind (sa σ37_ 4 4224 ((352 * (σ37_ 0 6)) + k36_) x44_) fun σ46_ =>
      lt (k36_ + 1) fun k48_ =>
      rec33_ k48_ σ46_
      else (some (k36_, σ37_))) fuelN (0 : Int32) ν) fun y30_ =>
      lt (up y30_.2 0 6 ((y30_.2 0 6) + 1)) fun σ50_ =>
      some σ50_) (fun μ' => μ' = up (cpy ν 1 4 0 (352 * B) 352) 0 6 (nI (B + 1))) := by
    intro ν B hB h
    refine wo_st (cp_loop (a := 1) (b := 4) (na := 752) (nb := 4224) (KI := 352) (K := 352) (oa := 0) (ob := 352 * B) (iR := fun k _ => k) (iW := fun k s => (352 * (s 0 6)) + k) rfl (by omega) (fun k s _ _ => by rw [Nat.zero_add]) (fun k s hk hs => ?_) (by omega) (by omega) (by decide) (by decide) (Or.inl (by decide))) ?_
    · show 352 * (s 0 6) + nI k = _
      rw [hs, cpy_pl (by decide), h]
      show nI 352 * nI B + nI k = _
      rw [pk_mul, nI_add]
    · refine wo_some ?_
      show up (cpy ν 1 4 0 (352 * B) 352) 0 6 (cpy ν 1 4 0 (352 * B) 352 0 6 + 1) = _
      rw [cpy_pl (by decide), h, nI_1]
  by_cases h12 : A = 12
  · subst h12
    rw [h6, if_pos (show nI 12 = (12 : Int32) from rfl)]
    refine wo_bind ?_
    refine wo_st (cp_loop (a := 4) (b := 4) (na := 4224) (nb := 4224) (KI := 3872) (K := 3872) (oa := 352) (ob := 0) (iR := fun k _ => k + 352) (iW := fun k _ => k) rfl (by omega) (fun k s _ _ => by show nI k + nI 352 = _; rw [nI_add, Nat.add_comm]) (fun k s hk hs => by rw [Nat.zero_add]) (by omega) (by omega) (by decide) (by decide) (Or.inr (by omega))) ?_
    refine wo_some ?_
    have e6 : up (cpy μ 4 4 352 0 3872) 0 6 (cpy μ 4 4 352 0 3872 0 6 - 1) 0 6 = nI 11 := by
      rw [up_at, cpy_pl (by decide), h6]
      exact nI_pred 11
    refine wo_mono (step (up (cpy μ 4 4 352 0 3872) 0 6 (cpy μ 4 4 352 0 3872 0 6 - 1)) 11 (by omega) e6) ?_
    rintro μ' rfl
    refine ⟨fun i h0 h4 => ?_, fun k hk => ?_, ?_, fun k hk => ?_, fun a k ha hk => ?_⟩
    · rw [up_pl h0, cpy_pl h4, up_pl h0, cpy_pl h4]
    · rw [up_off hk, cpy_pl (by decide), up_off hk, cpy_pl (by decide)]
    · rw [up_at]; rfl
    · show up _ _ _ _ 4 (352 * 11 + k) = _
      rw [up_pl (by decide), cpy_in (by omega) (by omega), up_pl (by decide), cpy_pl (by decide), show 0 + (352 * 11 + k - 352 * 11) = k from by omega]
    · have ha : a < 11 := ha
      rw [if_pos rfl, up_pl (by decide), cpy_out (by omega), up_pl (by decide), cpy_in (by omega) (by omega)]
      congr 1
      omega
  · have hlt : A < 12 := by omega
    rw [h6, if_neg (show ¬ nI A = (12 : Int32) from nIe (o := 12) (by omega) (by omega) h12)]
    refine wo_st rfl ?_
    refine wo_mono (step μ A (by omega) h6) ?_
    rintro μ' rfl
    have em : min 12 (A + 1) = A + 1 := Nat.min_eq_right (by omega)
    rw [em]
    refine ⟨fun i h0 h4 => ?_, fun k hk => ?_, ?_, fun k hk => ?_, fun a k ha hk => ?_⟩
    · rw [up_pl h0, cpy_pl h4]
    · rw [up_off hk, cpy_pl (by decide)]
    · rw [up_at]
    · show up _ _ _ _ 4 (352 * A + k) = _
      rw [up_pl (by decide), cpy_in (by omega) (by omega)]
      congr 1
      omega
    · have ha : a < A := ha
      rw [if_neg h12, up_pl (by decide), cpy_out (by omega)]
/-- an act is remembered on both sides -/
theorem rem_ok {LR : LRT} {σ μ : St} (hR : RR LR σ μ) : R2 (q4_remember σ 44) (q12_remembers μ) (fun σ' μ' => RR LR σ' μ' ∧ (∀ i, i ≠ 5 → i < 74 → σ' i = σ i) ∧ (∀ i, i ≠ 0 → i ≠ 4 → μ' i = μ i) ∧ ∀ k, k ≠ 6 → μ' 0 k = μ 0 k) := by
  obtain ⟨hV, hT, hF, ⟨A, f, a1, a2, a3, a4, a5, a6⟩, hI, hL⟩ := id hR
  refine r2_of (remC a1 a2 a3 a4) (remM a1 a5) ?_
  rintro σ' μ' ⟨c1, c2, c3, c4⟩ ⟨m1, m2, m3, m4, m5⟩
  have e1 : μ' 1 = μ 1 := m1 1 (by decide) (by decide)
  have e2 : μ' 2 = μ 2 := m1 2 (by decide) (by decide)
  have e5 : μ' 5 = μ 5 := m1 5 (by decide) (by decide)
  have k44 : ∀ i, i ≠ 5 → i < 74 → σ' i = σ i := fun i h1 h2 => c4 i h1 (by omega)
  refine ⟨⟨?_, ?_, ?_, ?_, ?_, ?_⟩, k44, m1, m2⟩
  · rw [e1]
    refine hV.to ⟨?_, ?_, ?_, ?_, ?_, ?_, ?_⟩ <;> intros <;> (try show σ' _ _ = σ _ _) <;> rw [k44 _ (by omega) (by omega)]
  · unfold RTe at hT ⊢
    rw [k44 1 (by decide) (by decide), k44 2 (by decide) (by decide), e5, m2 8 (by decide)]
    exact hT
  · rw [k44 0 (by decide) (by decide), m2 12 (by decide)]
    exact hF
  · refine ⟨min 12 (A + 1), (f + 1) % 12, by omega, by omega, c2, c3, m3, fun a ha => ?_⟩
    rw [e1]
    have hr : (fun k => μ' 4 (352 * a + k)) = (fun k => μ' 4 (352 * a + k)) := rfl
    by_cases hlast : a = min 12 (A + 1) - 1
    · have hj : ((f + 1) % 12 + 12 - min 12 (A + 1) + a) % 12 = f := by omega
      rw [hj]
      refine ⟨?_, ?_, ?_⟩
      · refine RVW.row (m := μ 1) ?_ (fun k hk _ _ => by rw [hlast]; exact m4 k hk)
        exact hV.to c1
      · rw [hlast]; exact m4 1 (by decide)
      · rw [hlast]; exact m4 2 (by decide)
    · have hlt : a < min 12 (A + 1) - 1 := by omega
      obtain ⟨b, hb, hbA, hj⟩ : ∃ b, b = (if A = 12 then a + 1 else a) ∧ b < A ∧ ((f + 1) % 12 + 12 - min 12 (A + 1) + a) % 12 = (f + 12 - A + b) % 12 := by
        refine ⟨_, rfl, ?_, ?_⟩
        · split <;> omega
        · split <;> omega
      rw [hj]
      obtain ⟨q1, q2, q3⟩ := a6 b hbA
      refine ⟨?_, ?_, ?_⟩
      · refine RVW.row (m := fun k => μ 4 (352 * b + k)) ?_ (fun k hk _ _ => by rw [hb]; exact m5 a k hlt hk)
        have hne : (f + 12 - A + b) % 12 ≠ f := by omega
        have hl12 : (f + 12 - A + b) % 12 < 12 := by omega
        generalize (f + 12 - A + b) % 12 = j at hne hl12 q1
        refine q1.to ⟨?_, ?_, ?_, ?_, ?_, ?_, ?_⟩ <;> intros <;> (try show σ' _ _ = σ _ _) <;> rw [c4 _ (by omega) (by omega)]
      · rw [m5 a 1 hlt (by decide), ← hb]; exact q2
      · rw [m5 a 2 hlt (by decide), ← hb]; exact q3
  · unfold RIe at hI ⊢
    rw [k44 0 (by decide) (by decide), k44 40 (by decide) (by decide), k44 41 (by decide) (by decide), m2 3 (by decide), e2]
    refine ⟨hI.1.eq (m2 15 (by decide)) (m2 16 (by decide)) (m2 18 (by decide)), hI.2.imp id (fun q => ⟨q.1, q.2.1, q.2.2.1.to ?_, q.2.2.2⟩)⟩
    refine ⟨?_, ?_, ?_, ?_, ?_, ?_, ?_⟩ <;> intros <;> (try show σ' _ _ = σ _ _) <;> rw [k44 _ (by omega) (by omega)]
  · rw [k44 32 (by decide) (by decide), k44 33 (by decide) (by decide), e1]
    exact hL

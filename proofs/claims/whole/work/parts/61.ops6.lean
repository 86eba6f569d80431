/-! LAYER 2: THE TEXT, PASS, FETCH -/
theorem and255 (x : Int32) : inR (x &&& 255) 255 := by
  refine ⟨(x &&& 255).toBitVec.toNat, ?_, ?_⟩
  · rw [Int32.toBitVec_and, BitVec.toNat_and]
    exact Nat.and_le_right
  · apply Int32.toBitVec_inj.mp
    show _ = BitVec.ofNat 32 _
    rw [BitVec.ofNat_toNat, BitVec.setWidth_eq]
theorem RR.text {LR : LRT} {σ σ' μ μ' : St} (h : RR LR σ μ) (hT : RTe σ' μ') (e : ∀ i, i ≠ 1 → i ≠ 2 → σ' i = σ i) (e2 : ∀ i, i ≠ 0 → i ≠ 5 → μ' i = μ i) (s3 : μ' 0 3 = μ 0 3) (s6 : μ' 0 6 = μ 0 6) (s12 : μ' 0 12 = μ 0 12) (hf : RFl μ → RFl μ') : RR LR σ' μ' := by
  obtain ⟨h1, h2, h3, h4, h5, h6⟩ := h
  refine ⟨?_, hT, ?_, ?_, ?_, ?_⟩
  · rw [e2 1 (by decide) (by decide)]
    refine h1.to ⟨?_, ?_, ?_, ?_, ?_, ?_, ?_⟩ <;> intros <;> (try show σ' _ _ = σ _ _) <;> rw [e _ (by omega) (by omega)]
  · rw [e 0 (by decide) (by decide), s12]; exact h3
  · unfold RAe at h4 ⊢
    rw [e 5 (by decide) (by decide), s6, e2 4 (by decide) (by decide), e2 1 (by decide) (by decide)]
    obtain ⟨A, f, a1, a2, a3, a4, a5, a6⟩ := h4
    refine ⟨A, f, a1, a2, a3, a4, a5, fun a ha => ⟨(a6 a ha).1.to ?_, (a6 a ha).2⟩⟩
    generalize (f + 12 - A + a) % 12 = j
    refine ⟨?_, ?_, ?_, ?_, ?_, ?_, ?_⟩ <;> intros <;> (try show σ' _ _ = σ _ _) <;> rw [e _ (by omega) (by omega)]
  · unfold RIe at h5 ⊢
    rw [e 0 (by decide) (by decide), e 40 (by decide) (by decide), e 41 (by decide) (by decide), s3, e2 2 (by decide) (by decide)]
    refine ⟨hf h5.1, h5.2.imp id (fun q => ⟨q.1, q.2.1, q.2.2.1.to ?_, q.2.2.2⟩)⟩
    refine ⟨?_, ?_, ?_, ?_, ?_, ?_, ?_⟩ <;> intros <;> (try show σ' _ _ = σ _ _) <;> rw [e _ (by omega) (by omega)]
  · rw [e 32 (by decide) (by decide), e 33 (by decide) (by decide), e2 1 (by decide) (by decide)]; exact h6
theorem op_end {LR : LRT} : Op_end (RR LR) := by
  intro σ μ hR x
  obtain ⟨t, ht, t1, t2, t3⟩ := hR.2.1
  unfold q11_end q12_end
  dsimp only [lt]
  have e08 : up μ 0 0 0 0 8 = nI t := (up_off (by decide)).trans t2
  rw [t1, e08]
  have hin : q12_isIn x 0 (nI t) = q12_isIn x 0 (nI (t + 1) - 1) := by rw [nI_pred]
  rw [hin]
  rcases rng_cases x (n := t + 1) (by omega) with ⟨r1, r2⟩ | ⟨i, hi, rfl, r1, r2⟩
  · have r1' : x < 0 ∨ nI t < x := by
      rcases r1 with r | r
      · exact Or.inl r
      · refine Or.inr (Int32.lt_of_lt_of_le (nI_lt (by omega) (by omega)) r)
    rw [if_pos r1', r2]
    exact ⟨(false, σ), (false, up μ 0 0 0), rfl, rfl, rfl, hR.t0⟩
  · have r1' : ¬ (nI i < 0 ∨ nI t < nI i) := by
      rintro (r | r)
      · exact nI_pos (by omega) r
      · have := (nI_ltI (by omega) (by omega)).mp r
        omega
    rw [if_neg r1', r2]
    refine ⟨(true, up σ 1 1 (nI i)), (true, up (up μ 0 0 0) 0 8 (nI i)), rfl, rfl, rfl, ?_⟩
    show RR LR (up σ 1 1 (nI i)) (up (up μ 0 0 0) 0 8 (nI i))
    refine hR.text ⟨i, by omega, up_at, up_at, fun k hk => ?_⟩ (fun j h1 h2 => up_pl h1) (fun j h0 h5 => by rw [up_pl h0, up_pl h0]) (by rw [up_off (by decide), up_off (by decide)]) (by rw [up_off (by decide), up_off (by decide)]) (by rw [up_off (by decide), up_off (by decide)]) (fun h => h.eq (by rw [up_off (by decide), up_off (by decide)]) (by rw [up_off (by decide), up_off (by decide)]) (by rw [up_off (by decide), up_off (by decide)]))
    rw [up_pl (by decide), up_pl (by decide), up_pl (by decide)]
    exact t3 k (by omega)
/-! feed -/
def byt (x : Int32) (j : Nat) : Int32 := ushr x (nI 24 - nI 8 * nI j) &&& 255
theorem put_ok {σ : St} {t : Nat} {x : Int32} (ht : t + 4 ≤ 400) (h1 : σ 1 1 = nI t) : Wo (q8_put σ x) (fun σ' => σ' 1 1 = nI (t + 4) ∧ (∀ j, j < 4 → σ' 2 (t + j) = byt x j) ∧ (∀ k, k < t → σ' 2 k = σ 2 k) ∧ ∀ i, i ≠ 1 → i ≠ 2 → σ' i = σ i) := by
  unfold q8_put
  dsimp only [lt]
  refine wo_bind ?_
  refine lpW2 4 (fun k a s => a = nI 24 - nI 8 * nI k ∧ s 1 1 = nI (t + k) ∧ (∀ j, j < k → s 2 (t + j) = byt x j) ∧ (∀ k, k < t → s 2 k = σ 2 k) ∧ ∀ i, i ≠ 1 → i ≠ 2 → s i = σ i) ?_ fuelN 0 24 σ (Nat.zero_le _) (fuel_ok (by omega)) ⟨rfl, h1, fun j hj => absurd hj (Nat.not_lt_zero _), fun _ _ => rfl, fun _ _ _ => rfl⟩
  rintro rec k a s hk ⟨rfl, s1, s2, s3, s4⟩ IH
  rw [s1]
  by_cases hk4 : k < 4
  · have c1 : (0 : Int32) ≤ nI 24 - nI 8 * nI k := by
      rcases (show k = 0 ∨ k = 1 ∨ k = 2 ∨ k = 3 by omega) with rfl | rfl | rfl | rfl <;> decide
    have c2 : nI 24 - nI 8 * nI k + -8 = nI 24 - nI 8 * nI (k + 1) := by
      rcases (show k = 0 ∨ k = 1 ∨ k = 2 ∨ k = 3 by omega) with rfl | rfl | rfl | rfl <;> decide
    rw [if_pos ⟨c1, nI_lt (b := 400) (by omega) (by omega)⟩, sa_nI (k := t + k) rfl (by omega) (by decide)]
    simp only [Option.bind_some]
    rw [c2]
    refine IH _ _ hk4 ⟨rfl, ?_, fun j hj => ?_, fun j hj => ?_, fun i i1 i2 => ?_⟩
    · rw [up_at, up_pl (by decide), s1, nI_1]
      rfl
    · rw [up_pl (by decide)]
      by_cases hjk : j = k
      · subst hjk
        rw [up_at]
        rfl
      · rw [up_off (by omega)]
        exact s2 j (by omega)
    · rw [up_pl (by decide), up_off (by omega)]
      exact s3 j hj
    · rw [up_pl i1, up_pl i2]
      exact s4 i i1 i2
  · have : k = 4 := by omega
    subst this
    rw [if_neg (fun q => absurd q.1 (by decide))]
    exact wo_some (wo_some ⟨s1, s2, s3, s4⟩)
def byts (a b c d e : Int32) (k : Nat) : Int32 := byt (if k < 4 then a else if k < 8 then b else if k < 12 then c else if k < 16 then d else e) (k % 4)
theorem op_feed {LR : LRT} : Op_feed (RR LR) := by
  intro σ μ hR a b c d e
  obtain ⟨t, ht, t1, t2, t3⟩ := hR.2.1
  unfold q11_feed q12_feed
  dsimp only [lt]
  have e08 : up μ 0 0 0 0 8 = nI t := (up_off (by decide)).trans t2
  rw [t1, e08, show nI t + 20 = nI (t + 20) from nI_add t 20]
  by_cases h20 : 400 < t + 20
  · have hc : (400 : Int32) < nI (t + 20) := nI_lt (a := 400) h20 (by omega)
    rw [if_pos hc, if_pos hc]
    exact ⟨_, _, rfl, rfl, rfl, hR.t0⟩
  · have hc : ¬ (400 : Int32) < nI (t + 20) := fun q => h20 ((nI_ltI (a := 400) (by omega) (by omega)).mp q)
    rw [if_neg hc, if_neg hc]
    obtain ⟨σ1, q1, a1, a2, a3, a4⟩ := put_ok (x := a) (by omega) t1
    obtain ⟨σ2, q2, b1, b2, b3, b4⟩ := put_ok (x := b) (by omega) a1
    obtain ⟨σ3, q3, c1, c2, c3, c4⟩ := put_ok (x := c) (by omega) b1
    obtain ⟨σ4, q4, d1, d2, d3, d4⟩ := put_ok (x := d) (by omega) c1
    obtain ⟨σ5, q5, f1, f2, f3, f4⟩ := put_ok (x := e) (by omega) d1
    have hM : Wo (loop2 (fun (rec10_ : Int32 → St → Option (Int32 × St)) (k13_ : Int32) (σ14_ : St) =>
        if k13_ < 20 then
        Option.bind (sa σ14_ 5 400 (σ14_ 0 8) ((ushr (if k13_ < 4 then a else if k13_ < 8 then b else if k13_ < 12 then c else if k13_ < 16 then d else e) (24 - (8 * (irm k13_ 4)))) &&& 255)) fun σ43_ =>
        rec10_ (k13_ + 1) (up σ43_ 0 8 ((σ43_ 0 8) + 1))
        else (some (k13_, σ14_))) fuelN (0 : Int32) (up μ 0 0 0)) (fun r => r.2 0 8 = nI (t + 20) ∧ (∀ j, j < 20 → r.2 5 (t + j) = byts a b c d e j) ∧ (∀ k, k < t → r.2 5 k = μ 5 k) ∧ (∀ i, i ≠ 0 → i ≠ 5 → r.2 i = μ i) ∧ ∀ k, k ≠ 0 → k ≠ 8 → r.2 0 k = μ 0 k) := by
      refine lpW2 20 (fun k p s => p = nI k ∧ s 0 8 = nI (t + k) ∧ (∀ j, j < k → s 5 (t + j) = byts a b c d e j) ∧ (∀ k, k < t → s 5 k = μ 5 k) ∧ (∀ i, i ≠ 0 → i ≠ 5 → s i = μ i) ∧ ∀ k, k ≠ 0 → k ≠ 8 → s 0 k = μ 0 k) ?_ fuelN 0 0 (up μ 0 0 0) (Nat.zero_le _) (fuel_ok (by omega)) ⟨rfl, e08, fun j hj => absurd hj (Nat.not_lt_zero _), fun _ _ => by rw [up_pl (by decide)], fun i h0 _ => up_pl h0, fun k h0 _ => up_off h0⟩
      rintro rec k p s hk ⟨rfl, s1, s2, s3, s4, s5⟩ IH
      refine wo_ite (fun hlt => ?_) (fun hge => ?_)
      · have hk20 : k < 20 := (nI_ltI (b := 20) (by omega) (by omega)).mp hlt
        rw [s1, sa_nI (k := t + k) rfl (by omega) (by decide)]
        simp only [Option.bind_some]
        rw [nI_1]
        refine IH _ _ hk20 ⟨rfl, ?_, fun j hj => ?_, fun j hj => ?_, fun i i0 i5 => ?_, fun j j0 j8 => ?_⟩
        · rw [up_at, up_pl (by decide), s1, nI_1]
          rfl
        · rw [up_pl (by decide)]
          by_cases hjk : j = k
          · subst hjk
            rw [up_at]
            unfold byts byt
            have hi : irm (nI j) 4 = nI (j % 4) := irm_nI (d := 4) (by omega) (by omega) (by omega)
            have e4 : (nI j < 4) = (j < 4) := propext (nI_ltI (b := 4) (by omega) (by omega))
            have e8 : (nI j < 8) = (j < 8) := propext (nI_ltI (b := 8) (by omega) (by omega))
            have e12 : (nI j < 12) = (j < 12) := propext (nI_ltI (b := 12) (by omega) (by omega))
            have e16 : (nI j < 16) = (j < 16) := propext (nI_ltI (b := 16) (by omega) (by omega))
            simp only [hi, e4, e8, e12, e16]
            rfl
          · rw [up_off (by omega)]
            exact s2 j (by omega)
        · rw [up_pl (by decide), up_off (by omega)]
          exact s3 j hj
        · rw [up_pl i0, up_pl i5]
          exact s4 i i0 i5
        · rw [up_off j8, up_pl (by decide)]
          exact s5 j j0 j8
      · have : k = 20 := by
          have : ¬ k < 20 := fun q => hge (nI_lt (b := 20) q (by omega))
          omega
        subst this
        exact wo_some ⟨s1, s2, s3, s4, s5⟩
    obtain ⟨⟨k', μ'⟩, er, r1, r2, r3, r4, r5⟩ := hM
    have er' := er
    rw [q1]
    simp only [Option.bind_some]
    rw [q2]
    simp only [Option.bind_some]
    rw [q3]
    simp only [Option.bind_some]
    rw [q4]
    simp only [Option.bind_some]
    rw [q5]
    simp only [Option.bind_some]
    rw [er']
    simp only [Option.bind_some]
    dsimp only at r1 r2 r3 r4 r5
    refine ⟨_, _, rfl, rfl, f1.trans r1.symm, ?_⟩
    show RR LR σ5 μ'
    refine hR.text ⟨t + 20, by omega, f1, r1, fun k hk => ?_⟩ (fun i i1 i2 => by rw [f4 i i1 i2, d4 i i1 i2, c4 i i1 i2, b4 i i1 i2, a4 i i1 i2]) (fun i i0 i5 => r4 i i0 i5) (r5 3 (by decide) (by decide)) (r5 6 (by decide) (by decide)) (r5 12 (by decide) (by decide)) (fun h => h.eq (r5 15 (by decide) (by decide)) (r5 16 (by decide) (by decide)) (r5 18 (by decide) (by decide)))
    have hkey : σ5 2 k = μ' 5 k := by
      by_cases hkt : k < t
      · rw [f3 k (by omega), d3 k (by omega), c3 k (by omega), b3 k (by omega), a3 k hkt, r3 k hkt]
        exact (t3 k hkt).1
      · obtain ⟨j, rfl⟩ : ∃ j, k = t + j := ⟨k - t, by omega⟩
        rw [r2 j (by omega)]
        unfold byts
        by_cases j4 : j < 4
        · rw [if_pos j4, f3 _ (by omega), d3 _ (by omega), c3 _ (by omega), b3 _ (by omega), a2 j j4, Nat.mod_eq_of_lt j4]
        · rw [if_neg j4]
          by_cases j8 : j < 8
          · rw [if_pos j8, f3 _ (by omega), d3 _ (by omega), c3 _ (by omega), show t + j = t + 4 + (j % 4) from by omega, b2 _ (by omega)]
          · rw [if_neg j8]
            by_cases j12 : j < 12
            · rw [if_pos j12, f3 _ (by omega), d3 _ (by omega), show t + j = t + 4 + 4 + (j % 4) from by omega, c2 _ (by omega)]
            · rw [if_neg j12]
              by_cases j16 : j < 16
              · rw [if_pos j16, f3 _ (by omega), show t + j = t + 4 + 4 + 4 + (j % 4) from by omega, d2 _ (by omega)]
              · rw [if_neg j16, show t + j = t + 4 + 4 + 4 + 4 + (j % 4) from by omega, f2 _ (by omega)]
    refine ⟨hkey, ?_⟩
    by_cases hkt : k < t
    · rw [f3 k (by omega), d3 k (by omega), c3 k (by omega), b3 k (by omega), a3 k hkt]
      exact (t3 k hkt).2
    · obtain ⟨j, rfl⟩ : ∃ j, k = t + j := ⟨k - t, by omega⟩
      rw [hkey, r2 j (by omega)]
      exact and255 _
/-! pass -/
theorem up_comm {σ : St} {i k j l : Nat} {x y : Int32} (h : i ≠ j) : up (up σ i k x) j l y = up (up σ j l y) i k x := by
  funext a b
  rw [up_eq2, up_eq2, up_eq2, up_eq2]
  by_cases h1 : a = j ∧ b = l
  · rw [if_pos h1, if_neg (fun q => h (q.1.symm.trans h1.1)), if_pos h1]
  · rw [if_neg h1]
    by_cases h2 : a = i ∧ b = k
    · rw [if_pos h2, if_pos h2]
    · rw [if_neg h2, if_neg h2, if_neg h1]
theorem warm_in {a : Nat} (h : a ≤ 9) : imin 9 (nI a + 1) = nI (min 9 (a + 1)) := by
  rw [nI_1]
  exact imin_nI (a := 9) (by omega) (by omega)
theorem op_pass {LR : LRT} : Op_pass (RR LR) := by
  intro σ μ hR p o
  obtain ⟨n, hN, hV, hW⟩ := hR.nn
  have hn := hN.1
  unfold q11_pass q12_pass
  dsimp only [lt]
  rcases two_cases hN p o with ⟨h1, h2⟩ | ⟨h1, h2⟩ | ⟨i, j, hi, hj, hij, rfl, rfl, h1, h2⟩
  · rw [h1, h2]
    exact ⟨(.inl 2, σ), (0, up μ 0 0 1), rfl, by simp only [Option.bind_some, up_at, if_pos lt01], sx_thr (i := 0) (by decide) (by decide) rfl, hR.t0⟩
  · rw [h1, h2]
    exact ⟨(.inl 0, σ), (0, up μ 0 0 2), rfl, by simp only [Option.bind_some, up_at, if_pos lt02], sx_thr (i := 1) (by decide) (by decide) rfl, hR.t0⟩
  · rw [h1, h2]
    simp only [thN, Option.bind_some, up_at, if_neg lt0]
    rw [hV.h1 hi, of0 (by omega), of4 (by omega), of4 (by omega), up0_1, hV.hb hi, hV.hb hj]
    simp only [Option.bind_some]
    have hin := in_pos (hW.1 i hi).1 (by decide)
    have hc : (((¬ μ 1 (14 + 7 * i) = 0) ∨ fB (μ 1) i = true) ∨ fB (μ 1) j = true ∧ True) ∨ (μ 1 (14 + 7 * i) = 0 ∧ fB (μ 1) i = false ∧ fB (μ 1) j = false) := by
      by_cases c1 : μ 1 (14 + 7 * i) = 0
      · cases c2 : fB (μ 1) i with
        | true => exact Or.inl (Or.inl (Or.inr rfl))
        | false =>
          cases c3 : fB (μ 1) j with
          | true => exact Or.inl (Or.inr ⟨rfl, trivial⟩)
          | false => exact Or.inr ⟨c1, rfl, rfl⟩
      · exact Or.inl (Or.inl (Or.inl c1))
    rcases hc with hc | ⟨c1, c2, c3⟩
    · have ht : (if 0 < μ 1 (14 + 7 * i) then some true else if 0 < μ 1 (14 + 7 * i + 4) + μ 1 (14 + 7 * j + 4) then some true else some false) = some true := by
        rcases wB hW hi with ⟨b1, b2⟩ | ⟨b1, b2⟩ <;> rcases wB hW hj with ⟨b3, b4⟩ | ⟨b3, b4⟩ <;> rw [b1, b3] <;> rw [b2, b4] at hc
        · rcases hc with (hc | hc) | hc
          · rw [if_pos (hin.mpr hc)]
          · exact absurd hc (by decide)
          · exact absurd hc.1 (by decide)
        · split
          · rfl
          · rfl
        · split
          · rfl
          · rfl
        · split
          · rfl
          · rfl
      rw [ht, if_pos (hc.imp id And.left)]
      exact ⟨(.inl 1, σ), (0, up (up μ 0 0 0) 0 0 3), rfl, by simp only [Option.bind_some, if_true, up_at, if_pos lt03], sx_thr (i := 2) (by decide) (by decide) rfl, hR.t0.t0⟩
    · have hb1 : μ 1 (14 + 7 * i + 4) = 0 := by
        rcases wB hW hi with ⟨b1, b2⟩ | ⟨b1, b2⟩
        · exact b1
        · rw [b2] at c2; cases c2
      have hb2 : μ 1 (14 + 7 * j + 4) = 0 := by
        rcases wB hW hj with ⟨b1, b2⟩ | ⟨b1, b2⟩
        · exact b1
        · rw [b2] at c3; cases c3
      rw [c1, c2, c3, hb1, hb2]
      have hcc : ¬ (((¬ (0 : Int32) = 0) ∨ false = true) ∨ false = true) := by decide
      simp only [if_neg hcc, if_neg lt0, Int32.add_zero, Option.bind_some, Bool.false_eq_true, if_false, up_at]
      obtain ⟨σ1, μ1, e1, e2, hR1, k1, k2, k3⟩ := rem_ok ((hR.t0 (x := 0)).t0 (x := 0))
      have hm1 : μ1 1 = μ 1 := (k2 1 (by decide) (by decide)).trans (up0_1.trans up0_1)
      rw [liking_ne (by omega) (by omega) (Ne.symm hij), up0_1, up0_1]
      obtain ⟨x, hx, ex⟩ := hW.2.1 j i hj hi (Ne.symm hij)
      have e9 : σ1 (44 + 6) (j * 6 + i) = nI x := by
        rw [k1 (44 + 6) (by decide) (by decide)]
        exact (hV.2.2.2.1 j i hj hi (Ne.symm hij)).trans ex
      refine ⟨(.inr (nI (min 9 (x + 1))), up (up (up σ1 (44 + 1) i 1) (44 + 1) j 0) (44 + 6) (j * 6 + i) (nI (min 9 (x + 1)))), (nI (min 9 (x + 1)), up (up (up μ1 1 (63 + 7 * j + i) (nI (min 9 (x + 1)))) 1 (14 + 7 * i + 0) 1) 1 (14 + 7 * j + 0) 0), ?_, ?_, sx_ok ?_, ?_⟩
      · show Option.bind (q4_remember σ 44) _ = _
        rw [e1]
        simp only [Option.bind_some]
        rw [sa_nI (k := i) rfl (by omega) (by decide)]
        simp only [Option.bind_some]
        rw [sa_nI (k := j) rfl (by omega) (by decide)]
        simp only [Option.bind_some]
        unfold q10_warm
        dsimp only [lt]
        rw [ag_nI (ix_6 j i) (by omega) (by decide), up_pl (by decide), up_pl (by decide), e9]
        simp only [Option.bind_some]
        rw [warm_in hx, sa_nI (ix_6 j i) (by omega) (by decide)]
        simp only [Option.bind_some]
        rw [likingOf_ne (by omega) (by omega) (Ne.symm hij), up_at]
        rfl
      · simp only [Option.bind_some]
        rw [ex, ← imin_le, warm_in hx, sets_ok e2 (ji := (63 : Int32) + 7 * nI j + nI i) (ix_w j i) (by omega)]
        simp only [Option.bind_some]
        rw [show (0 : Int32) = nI 0 from rfl, lays_nI (by omega) (by omega)]
        simp only [Option.bind_some]
        rw [lays_nI (by omega) (by omega)]
        simp only [Option.bind_some]
        rw [liking_ne (by omega) (by omega) (Ne.symm hij), up_off (by omega), up_off (by omega), up_at]
        rfl
      · show up (up (up μ1 1 _ _) 1 _ _) 1 _ _ 0 0 = 0
        rw [up_pl (by decide), up_pl (by decide), up_pl (by decide), k3 0 (by decide), up_at]
      · show RR LR (up (up (up σ1 (44 + 1) i 1) (44 + 1) j 0) (44 + 6) (j * 6 + i) (nI (min 9 (x + 1)))) _
        rw [up_comm (i := 44 + 1) (j := 44 + 6) (by decide), up_comm (i := 44 + 1) (j := 44 + 6) (by decide)]
        have g1 : RR LR (up σ1 (44 + 6) (j * 6 + i) (nI (min 9 (x + 1)))) (up μ1 1 (63 + 7 * j + i) (nI (min 9 (x + 1)))) := hR1.put (44 + 6) (j * 6 + i) (63 + 7 * j + i) _ _ (by decide) (by decide) (by omega) (by omega) (by omega) (fun n1 hV1 hW1 => by
          have en := n_same hN hm1 hV1
          subst en
          exact ⟨by rw [vd_du]; exact hV1.uK hj hi (Ne.symm hij), WFm.uK hn hW1 hj hi (Ne.symm hij) (inR_nI (by omega))⟩)
        have hm3 : up μ1 1 (63 + 7 * j + i) (nI (min 9 (x + 1))) 1 3 = nI n := by rw [up_off (by omega), hm1]; exact hN.2.2
        have g2 := g1.put (44 + 1) i (14 + 7 * i + 0) 1 1 (by decide) (by decide) (by omega) (by omega) (by omega) (fun n1 hV1 hW1 => by
          have en : n1 = n := (nI_eq (by have := hV1.1.1; omega) (by omega)).mp (hV1.1.2.2.symm.trans hm3)
          subst en
          exact ⟨by rw [vd_du]; exact hV1.uH hi, WFm.uH hn hW1 hi (inR_nI (a := 1) (by omega))⟩)
        have hm4 : up (up μ1 1 (63 + 7 * j + i) (nI (min 9 (x + 1)))) 1 (14 + 7 * i + 0) 1 1 3 = nI n := by rw [up_off (by omega)]; exact hm3
        exact g2.put (44 + 1) j (14 + 7 * j + 0) 0 0 (by decide) (by decide) (by omega) (by omega) (by omega) (fun n1 hV1 hW1 => by
          have en : n1 = n := (nI_eq (by have := hV1.1.1; omega) (by omega)).mp (hV1.1.2.2.symm.trans hm4)
          subst en
          exact ⟨by rw [vd_du]; exact hV1.uH hj, WFm.uH hn hW1 hj (inR_nI (a := 0) (by omega))⟩)

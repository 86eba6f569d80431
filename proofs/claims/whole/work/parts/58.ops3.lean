/-! LAYER 2: STAND, LIKE, UNDO, IMAGE, BACK -/
/-- the people's number stays over a remembered act -/
theorem n_same {σ μ μ1 : St} {n n1 : Nat} (hN : NN σ μ n) (hm : μ1 1 = μ 1) {d : Nat → Nat → Int32} (hV1 : RVd d (μ1 1) n1) : n1 = n := by
  have e3 : nI n1 = nI n := hV1.1.2.2.symm.trans ((congrFun hm 3).trans hN.2.2)
  exact (nI_eq (by have := hV1.1.1; omega) (by have := hN.1; omega)).mp e3
theorem op_stand {LR : LRT} : Op_stand (RR LR) := by
  intro σ μ hR p is
  obtain ⟨n, hN, hV, hW⟩ := hR.nn
  have hn := hN.1
  unfold q11_stand q12_stand
  dsimp only [lt]
  rcases one_cases hN p with ⟨h1, h2⟩ | ⟨i, hi, rfl, h1, h2⟩
  · rw [h1, h2]
    exact ⟨(.inl 2, σ), (false, up μ 0 0 1), rfl, by simp only [Bool.false_eq_true, not_false_eq_true, if_true, up_at, if_pos lt01, Option.bind_some], sx_thr (i := 0) (by decide) (by decide) rfl, hR.t0⟩
  · rw [h1, h2]
    simp only [not_true_eq_false, if_false, up_at, if_neg lt0, Option.bind_some]
    rw [hV.hb hi, of4 (by omega), up0_1]
    simp only [Option.bind_some]
    rcases wB hW hi with ⟨hb1, hb2⟩ | ⟨hb1, hb2⟩
    · rw [hb1, hb2]
      simp only [Bool.false_eq_true, if_false, if_neg (show ¬ (0 : Int32) = 1 by decide), if_true]
      obtain ⟨σ1, μ1, e1, e2, hR1, k1, k2, k3⟩ := rem_ok ((hR.t0 (x := 0)).t0 (x := 0))
      have hm1 : μ1 1 = μ 1 := (k2 1 (by decide) (by decide)).trans (up0_1.trans up0_1)
      have e44 : σ1 44 = σ 44 := k1 44 (by decide) (by decide)
      have hwas : q11_isIn (σ1 44 9) (nI i) = fS (μ 1) i := by rw [e44]; exact hV.hs hi
      have hset : σ1 44 9 = nI (bs (fS (μ 1)) n) := by rw [e44]; exact hV.2.2.1.1
      have key : RR LR (up σ1 44 9 (if is = true then σ1 44 9 ||| shl 1 (nI i) else q11_without (σ1 44 9) (nI i))) (up μ1 1 (14 + 7 * i + 3) (if is = true then 1 else 0)) := by
        refine hR1.put 44 9 (14 + 7 * i + 3) _ _ (by decide) (by decide) (by omega) (by omega) (by omega) (fun n1 hV1 hW1 => ?_)
        have en := n_same hN hm1 hV1
        subst en
        rw [vd_du0, hset, ← hm1]
        cases is with
        | true => exact ⟨hV1.uS1 hi, WFm.uS hn hW1 hi (inR_nI (a := 1) (by omega))⟩
        | false => exact ⟨hV1.uS0 hi, WFm.uS hn hW1 hi (inR_nI (a := 0) (by omega))⟩
      refine ⟨(.inr (decide (¬ b2i (fS (μ 1) i) = b2i is)), up σ1 44 9 (if is = true then σ1 44 9 ||| shl 1 (nI i) else q11_without (σ1 44 9) (nI i))), (decide (¬ b2i (fS (μ 1) i) = b2i is), up μ1 1 (14 + 7 * i + 3) (if is = true then 1 else 0)), ?_, ?_, sx_ok ?_, key⟩
      · show Option.bind (q4_remember σ 44) _ = _
        rw [e1]
        show some (Sum.inr (decide (¬ b2i (q11_isIn (σ1 44 9) (nI i)) = b2i is)), _) = _
        rw [hwas]
      · simp only [Option.bind_some, if_true]
        rw [sets_ok e2 (ji := (14 : Int32) + 7 * nI i + 3) (ix_of i 3) (by omega), hm1]
        simp only [Option.bind_some]
        rcases wS hW hi with ⟨hs1, hs2⟩ | ⟨hs1, hs2⟩
        · rw [hs1, hs2]
          cases is <;> rfl
        · rw [hs1, hs2]
          cases is <;> rfl
      · show up μ1 1 _ _ 0 0 = 0
        rw [up_pl (by decide), k3 0 (by decide), up_at]
    · rw [hb1, hb2]
      simp only [if_true]
      refine ⟨(.inl 1, σ), (false, up (up μ 0 0 0) 0 0 2), rfl, ?_, sx_thr (i := 1) (by decide) (by decide) rfl, hR.t0.t0⟩
      simp only [if_neg (show ¬ (2 : Int32) = 0 by decide), Option.bind_some, Bool.false_eq_true, if_false]
theorem op_like {LR : LRT} : Op_like (RR LR) := by
  intro σ μ hR p o x
  obtain ⟨n, hN, hV, hW⟩ := hR.nn
  have hn := hN.1
  unfold q11_like q12_like q11_needTwo
  dsimp only [lt]
  rcases one_cases hN p with ⟨h1, h2⟩ | ⟨i, hi, rfl, h1, h2⟩
  · rw [h1, h2]
    exact ⟨(.inl 2, σ), (0, up μ 0 0 1), rfl, by simp only [Bool.false_eq_true, if_false, if_true, up_at, if_pos lt01, Option.bind_some], sx_thr (i := 0) (by decide) (by decide) rfl, hR.t0⟩
  · rcases one_cases hN o with ⟨h3, h4⟩ | ⟨j, hj, rfl, h3, h4⟩
    · rw [h1, h2, h3, h4]
      exact ⟨(.inl 2, σ), (0, up μ 0 0 1), rfl, by simp only [Bool.false_eq_true, if_false, if_true, up_at, if_pos lt01, Option.bind_some], sx_thr (i := 0) (by decide) (by decide) rfl, hR.t0⟩
    · rw [h1, h2, h3, h4]
      simp only [thN, Option.bind_some, if_true, Bool.false_eq_true, if_false]
      by_cases hij : i = j
      · subst hij
        simp only [if_true, true_or]
        exact ⟨(.inl 0, σ), (0, up μ 0 0 2), rfl, by simp only [up_at, if_pos lt02, Option.bind_some], sx_thr (i := 1) (by decide) (by decide) rfl, hR.t0⟩
      · have hne : ¬ nI i = nI j := nIe (by omega) (by omega) hij
        simp only [if_neg hne, eq_false hne, false_or]
        rcases num_cases x 0 9 with ⟨h5, h6⟩ | ⟨h5, h6, h7, h8⟩
        · rw [h5, h6]
          exact ⟨(.inl 0, σ), (0, up μ 0 0 2), rfl, by simp only [Bool.false_eq_true, not_false_eq_true, if_true, up_at, if_pos lt02, Option.bind_some], sx_thr (i := 1) (by decide) (by decide) rfl, hR.t0⟩
        · rw [h5, h6]
          simp only [not_true_eq_false, if_false, up_at, if_neg lt0]
          obtain ⟨σ1, μ1, e1, e2, hR1, k1, k2, k3⟩ := rem_ok (hR.t0 (x := 0))
          have hm1 : μ1 1 = μ 1 := (k2 1 (by decide) (by decide)).trans up0_1
          obtain ⟨b, hb, rfl⟩ := nI_of2 (x := x) (M := 9) (n := 9) (by decide) (Int32.not_lt.mpr h7) h8
          refine ⟨(.inr (μ 1 (63 + 7 * i + j)), up σ1 50 (i * 6 + j) (nI b)), (μ 1 (63 + 7 * i + j), up μ1 1 (63 + 7 * i + j) (nI b)), ?_, ?_, sx_ok ?_, ?_⟩
          · show Option.bind (q4_remember σ 44) _ = _
            rw [e1]
            show Option.bind (q10_likingOf σ1 44 (nI i) (nI j)) _ = _
            rw [likingOf_ne (by omega) (by omega) hij, k1 (44 + 6) (by decide) (by decide)]
            show Option.bind (sa σ1 (44 + 6) 36 (nI i * 6 + nI j) (nI b)) _ = _
            rw [sa_nI (ix_6 i j) (by omega) (by decide)]
            have h9 : σ (44 + 6) (i * 6 + j) = μ 1 (63 + 7 * i + j) := hV.2.2.2.1 i j hi hj hij
            show some (Sum.inr (σ (44 + 6) (i * 6 + j)), up σ1 50 (i * 6 + j) (nI b)) = _
            rw [h9]
          · rw [sets_ok e2 (ji := (63 : Int32) + 7 * nI i + nI j) (ix_w i j) (by omega), hm1]
            rfl
          · show up μ1 1 _ _ 0 0 = 0
            rw [up_pl (by decide), k3 0 (by decide), up_at]
          · refine hR1.put 50 (i * 6 + j) (63 + 7 * i + j) _ _ (by decide) (by decide) (by omega) (by omega) (by omega) (fun n1 hV1 hW1 => ?_)
            have en := n_same hN hm1 hV1
            subst en
            exact ⟨by rw [show (50 : Nat) = 44 + 6 from rfl, vd_du]; exact hV1.uK hi hj hij, WFm.uK hn hW1 hi hj hij (inR_nI (by omega))⟩
theorem cp_loop2 {a b na nb K oa ob : Nat} {KI : Int32} {iR iW : Int32 → St → Int32} {σ : St} (hK : KI = nI K) (hK2 : K ≤ 5000) (hR : ∀ k s, k < K → s = cpy σ a b oa ob k → iR (nI k) s = nI (oa + k)) (hW : ∀ k s, k < K → s = cpy σ a b oa ob k → iW (nI k) s = nI (ob + k)) (h1 : oa + K ≤ na) (h2 : ob + K ≤ nb) (h3 : na < 2 ^ 31) (h4 : nb < 2 ^ 31) (hab : a ≠ b ∨ ob ≤ oa) :
    loop2 (fun (rec : Int32 → St → Option (Int32 × St)) (k : Int32) (s : St) => if k < KI then Option.bind (ag s a na (iR k s)) fun x => Option.bind (sa s b nb (iW k s) x) fun s' => rec (k + 1) s' else (some (k, s))) fuelN (0 : Int32) σ = some (nI K, cpy σ a b oa ob K) := cp_loop hK hK2 hR hW h1 h2 h3 h4 hab
theorem op_undo {LR : LRT} : Op_undo (RR LR) := by
  intro σ μ hR
  obtain ⟨hV, hT, hF, ⟨A, f, a1, a2, a3, a4, a5, a6⟩, hI, hL⟩ := id hR
  unfold q11_undo q12_undo q4_recall
  dsimp only [lt]
  have e06 : up μ 0 0 0 0 6 = nI A := (up_off (by decide)).trans a5
  rw [a3, e06]
  by_cases hA : A = 0
  · subst hA
    exact ⟨(false, σ), (false, up μ 0 0 0), rfl, rfl, rfl, hR.t0⟩
  · have hne : ¬ nI A = 0 := nI_ne0 (by omega) (by omega)
    rw [if_neg hne, if_neg hne]
    have ep : nI A - 1 = nI (A - 1) := by
      have := nI_pred (A - 1)
      rw [show A - 1 + 1 = A from by omega] at this
      exact this
    generalize hf1 : (f + 11) % 12 = f1
    have hf1l : f1 < 12 := by omega
    rw [a4, fmod12 f a2, hf1]
    have hτ : ∀ i, i ≠ 5 → up (up σ 5 2 (nI f1)) 5 1 (up σ 5 2 (nI f1) 5 1 - 1) i = σ i := fun i hi => by rw [up_pl hi, up_pl hi]
    have hτ1 : up (up σ 5 2 (nI f1)) 5 1 (up σ 5 2 (nI f1) 5 1 - 1) 5 1 = nI (A - 1) := by rw [up_at, up_off (by decide), a3, ep]
    have hτ2 : up (up σ 5 2 (nI f1)) 5 1 (up σ 5 2 (nI f1) 5 1 - 1) 5 2 = nI f1 := by rw [up_off (by decide), up_at]
    generalize up (up σ 5 2 (nI f1)) 5 1 (up σ 5 2 (nI f1) 5 1 - 1) = τ at hτ hτ1 hτ2
    rw [hτ2, kpt_nI hf1l]
    simp only [Option.bind_some]
    obtain ⟨ρ, eρ, v1, v2⟩ := bec_ok (σ := τ) (t := 44) (s := 74 + 10 * f1) (by omega)
    rw [eρ]
    have hν6 : up (up μ 0 0 0) 0 6 (nI A - 1) 0 6 = nI (A - 1) := by rw [up_at, ep]
    have hν : ∀ i, i ≠ 0 → up (up μ 0 0 0) 0 6 (nI A - 1) i = μ i := fun i hi => by rw [up_pl hi, up_pl hi]
    have hν0 : ∀ k, k ≠ 0 → k ≠ 6 → up (up μ 0 0 0) 0 6 (nI A - 1) 0 k = μ 0 k := fun k h0 h6 => by rw [up_off h6, up_off h0]
    generalize up (up μ 0 0 0) 0 6 (nI A - 1) = ν at hν6 hν hν0
    rw [cp_loop2 (σ := ν) (a := 4) (b := 1) (na := 4224) (nb := 752) (KI := 352) (K := 352) (oa := 352 * (A - 1)) (ob := 0) (iR := fun k s => (352 * (s 0 6)) + k) (iW := fun k _ => k) rfl (by omega) (fun k s hk hs => by
      show 352 * (s 0 6) + nI k = _
      rw [hs, cpy_pl (by decide), hν6]
      show nI 352 * nI (A - 1) + nI k = _
      rw [pk_mul, nI_add]) (fun k s _ _ => by rw [Nat.zero_add]) (by omega) (by omega) (by decide) (by decide) (Or.inl (by decide))]
    refine ⟨(true, ρ), (true, cpy ν 4 1 (352 * (A - 1)) 0 352), rfl, rfl, rfl, ?_⟩
    obtain ⟨q1, q2, q3⟩ := a6 (A - 1) (by omega)
    have hj : (f + 12 - A + (A - 1)) % 12 = f1 := by omega
    rw [hj] at q1
    have em : ∀ k, k < 352 → cpy ν 4 1 (352 * (A - 1)) 0 352 1 k = μ 4 (352 * (A - 1) + k) := fun k hk => by
      rw [cpy_in (Nat.zero_le _) (by omega), hν 4 (by decide), Nat.sub_zero]
    have eo : ∀ i, i ≠ 0 → i ≠ 1 → cpy ν 4 1 (352 * (A - 1)) 0 352 i = μ i := fun i h0 h1 => by rw [cpy_pl h1, hν i h0]
    have e0 : ∀ k, k ≠ 0 → k ≠ 6 → cpy ν 4 1 (352 * (A - 1)) 0 352 0 k = μ 0 k := fun k h0 h6 => by rw [cpy_pl (by decide), hν0 k h0 h6]
    have et : ∀ k, cpy ν 4 1 (352 * (A - 1)) 0 352 1 (352 + k) = μ 1 (352 + k) := fun k => by rw [cpy_out (by omega), hν 1 (by decide)]
    have e6 : cpy ν 4 1 (352 * (A - 1)) 0 352 0 6 = nI (A - 1) := by rw [cpy_pl (by decide), hν6]
    have m1 : cpy ν 4 1 (352 * (A - 1)) 0 352 1 1 = μ 1 1 := (em 1 (by decide)).trans q2
    have m2 : cpy ν 4 1 (352 * (A - 1)) 0 352 1 2 = μ 1 2 := (em 2 (by decide)).trans q3
    generalize cpy ν 4 1 (352 * (A - 1)) 0 352 = μ' at em eo e0 et e6 m1 m2
    have eρ2 : ∀ i, i ≠ 5 → i < 44 ∨ 54 ≤ i → ρ i = σ i := fun i h5 hi => by rw [v2 i (by omega), hτ i h5]
    have eρ5 : ρ 5 = τ 5 := v2 5 (by omega)
    show RR LR ρ μ'
    refine ⟨?_, ?_, ?_, ?_, ?_, ?_⟩
    · refine RVW.row (m := fun k => μ 4 (352 * (A - 1) + k)) ?_ (fun k hk _ _ => em k hk)
      refine (q1.to (d' := vd τ (74 + 10 * f1)) ?_).to v1
      refine ⟨?_, ?_, ?_, ?_, ?_, ?_, ?_⟩ <;> intros <;> (try show τ _ _ = σ _ _) <;> rw [hτ _ (by omega)]
    · unfold RTe at hT ⊢
      rw [eρ2 1 (by decide) (by omega), eρ2 2 (by decide) (by omega), e0 8 (by decide) (by decide), eo 5 (by decide) (by decide)]
      exact hT
    · rw [eρ2 0 (by decide) (by omega), e0 12 (by decide) (by decide)]; exact hF
    · refine ⟨A - 1, f1, by omega, hf1l, by rw [eρ5]; exact hτ1, by rw [eρ5]; exact hτ2, e6, fun a ha => ?_⟩
      obtain ⟨w1, w2, w3⟩ := a6 a (by omega)
      rw [m1, m2, eo 4 (by decide) (by decide)]
      refine ⟨?_, w2, w3⟩
      have hjj : (f1 + 12 - (A - 1) + a) % 12 = (f + 12 - A + a) % 12 := by omega
      rw [hjj]
      generalize (f + 12 - A + a) % 12 = j at w1
      refine w1.to ⟨?_, ?_, ?_, ?_, ?_, ?_, ?_⟩ <;> intros <;> (try show ρ _ _ = σ _ _) <;> rw [eρ2 _ (by omega) (by omega)]
    · unfold RIe at hI ⊢
      rw [eρ2 0 (by decide) (by omega), eρ2 40 (by decide) (by omega), eρ2 41 (by decide) (by omega), e0 3 (by decide) (by decide), eo 2 (by decide) (by decide)]
      refine ⟨hI.1.eq (e0 15 (by decide) (by decide)) (e0 16 (by decide) (by decide)) (e0 18 (by decide) (by decide)), hI.2.imp id (fun q => ⟨q.1, q.2.1, q.2.2.1.to ?_, q.2.2.2⟩)⟩
      refine ⟨?_, ?_, ?_, ?_, ?_, ?_, ?_⟩ <;> intros <;> (try show ρ _ _ = σ _ _) <;> rw [eρ2 _ (by omega) (by omega)]
    · rw [eρ2 32 (by decide) (by omega), eρ2 33 (by decide) (by omega), m1, m2]
      have e9 : (fun k => μ' 1 (352 + k)) = (fun k => μ 1 (352 + k)) := funext et
      rw [e9]
      exact hL

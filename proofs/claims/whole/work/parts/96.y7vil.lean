/-! LAYER 2: VILLAGE -/
theorem begins_ok {μ : St} {N : Nat} (t2 : μ 0 8 = nI N) : ∃ z, q12_begins μ = some z ∧ (∀ i, i ≠ 0 → z i = μ i) ∧ z 0 12 = -1 ∧ z 0 9 = -1 ∧ z 0 10 = nI N ∧ z 0 8 = 0 ∧ z 0 11 = 0 ∧ z 0 13 = 0 ∧ ∀ k, k ≠ 12 → k ≠ 9 → k ≠ 10 → k ≠ 8 → k ≠ 11 → k ≠ 13 → z 0 k = μ 0 k := by
  unfold q12_begins
  simp only [lt_nr]
  refine ⟨_, rfl, fun i hi => by rw [up_pl hi, up_pl hi, up_pl hi, up_pl hi, up_pl hi, up_pl hi], ?_, ?_, ?_, ?_, ?_, up_at, fun k k1 k2 k3 k4 k5 k6 => by rw [up_off k6, up_off k5, up_off k4, up_off k3, up_off k2, up_off k1]⟩
  · rw [up_off (by decide), up_off (by decide), up_off (by decide), up_off (by decide), up_off (by decide), up_at]
  · rw [up_off (by decide), up_off (by decide), up_off (by decide), up_off (by decide), up_at]
  · rw [up_off (by decide), up_off (by decide), up_off (by decide), up_at, up_off (by decide), up_off (by decide)]; exact t2
  · rw [up_off (by decide), up_off (by decide), up_at]
  · rw [up_off (by decide), up_at]
theorem back_cp {u : St} : q12_comesBack u = some (cpy u 3 1 0 0 352) := by
  unfold q12_comesBack
  rw [cp_loop (a := 3) (b := 1) (na := 352) (nb := 752) (KI := 352) (K := 352) (oa := 0) (ob := 0) (iR := fun k _ => k) (iW := fun k _ => k) rfl (by decide) (fun k s _ _ => by rw [Nat.zero_add]) (fun k s _ _ => by rw [Nat.zero_add]) (by decide) (by decide) (by decide) (by decide) (Or.inl (by decide))]
  rfl
theorem op_village : Op_village (RR LRx) := by
  intro σ μ hR
  obtain ⟨u, eu, hR, hA, u1, u0⟩ := aside_ok hR
  obtain ⟨n, hV, hW⟩ := hR.1
  obtain ⟨s, es, hR, hk, hV44⟩ := spare_ok hR hV hW
  obtain ⟨N, hN, t1, t2, t3⟩ := hR.2.1
  have hX : TX (cT (u 5) N) N s := ⟨hN, t1, fun k hk => by rw [cT_in hk]; exact (t3 k hk).1⟩
  have hfl := hR.2.2.2.2.1.1
  obtain ⟨z, ez, zi, z12, z9, z10, z8, z11, z13, zk⟩ := begins_ok t2
  have hPM : PM (cT (u 5) N) N z 0 := ⟨⟨hN, Or.inl ⟨z9, fun k hk => by rw [zi 5 (by decide), cT_in hk]⟩, z10⟩, Nat.zero_le _, z11⟩
  have hkz : Wk 54 n s z := by unfold Wk; rw [zi 1 (by decide)]; exact hk
  unfold q11_village q12_village
  simp only [lt_nr]
  rw [es, eu]
  simp only [Option.bind_some]
  rw [ez]
  simp only [Option.bind_some]
  have hflz : ∀ w' : St, Fr54 z w' → RFl w' := fun w' f => hfl.eq (by rw [f.2.2 15 (by decide) (by decide), zk 15 (by decide) (by decide) (by decide) (by decide) (by decide) (by decide)]) (by rw [f.2.2 16 (by decide) (by decide), zk 16 (by decide) (by decide) (by decide) (by decide) (by decide) (by decide)]) (by rw [f.2.2 18 (by decide) (by decide), zk 18 (by decide) (by decide) (by decide) (by decide) (by decide) (by decide)])
  have hcl : ∀ (x : St) (b : Bool), q11_closeText x b = some (up (up x 0 15 (if b = true then (-1) else x 1 2)) 1 1 0) := fun x b => by
    unfold q11_closeText
    simp only [lt_nr]
  have hm1 : ∀ w' : St, Fr54 z w' → cpy w' 3 1 0 0 352 1 = u 1 := fun w' f => by
    funext k
    by_cases hk : k < 352
    · rw [cpy_in (by omega) (by omega), f.1 3 (by decide) (by decide), zi 3 (by decide), show 0 + (k - 0) = k from by omega]
      exact hA k hk
    · rw [cpy_out (by omega), f.2.1 k (by omega), zi 1 (by decide)]
  have herr : ∀ (s' w' : St) (e x : Int32), Fc54 s s' → Fr54 z w' → w' 0 12 = e → RR LRx (up (up s' 0 15 e) 1 1 0) (cpy (up w' 0 0 x) 3 1 0 0 352) := fun s' w' e x f1 f2 h12 => by
    have f3 : Fr54 z (up w' 0 0 x) → False ∨ True := fun _ => Or.inr trivial
    refine hR.err (e := e) (fun i h0 hi => ?_) up_at ?_ ?_ ?_ ?_ ?_ ?_ ?_ ?_ ?_ ?_ ?_ (fun hf => ?_)
    · have hi := hi
      unfold keepC at hi
      rw [up_pl (by omega), up_pl h0]
      exact f1 i (by omega) (by omega)
    · rw [up_pl (by decide), up_pl (by decide), f1 32 (by decide) (by omega)]
    · rw [up_pl (by decide), up_pl (by decide), f1 32 (by decide) (by omega)]
    · rw [up_pl (by decide), up_off (by decide), f1 0 (by decide) (by omega)]
    · rw [up_pl (by decide), up_at]
    · funext k
      by_cases hk : k < 352
      · rw [cpy_in (by omega) (by omega), up_pl (by decide), f2.1 3 (by decide) (by decide), zi 3 (by decide), show 0 + (k - 0) = k from by omega]
        exact hA k hk
      · rw [cpy_out (by omega), up_pl (by decide), f2.2.1 k (by omega), zi 1 (by decide)]
    · rw [cpy_pl (by decide), up_pl (by decide), f2.1 2 (by decide) (by decide), zi 2 (by decide)]
    · rw [cpy_pl (by decide), up_pl (by decide), f2.1 4 (by decide) (by decide), zi 4 (by decide)]
    · rw [cpy_pl (by decide), up_off (by decide), f2.2.2 3 (by decide) (by decide), zk 3 (by decide) (by decide) (by decide) (by decide) (by decide) (by decide)]
    · rw [cpy_pl (by decide), up_off (by decide), f2.2.2 6 (by decide) (by decide), zk 6 (by decide) (by decide) (by decide) (by decide) (by decide) (by decide)]
    · rw [cpy_pl (by decide), up_off (by decide), f2.2.2 8 (by decide) (by decide), z8]
    · rw [cpy_pl (by decide), up_off (by decide), h12]
    · exact (hflz w' f2).eq (by rw [cpy_pl (by decide), up_off (by decide)]) (by rw [cpy_pl (by decide), up_off (by decide)]) (by rw [cpy_pl (by decide), up_off (by decide)])
  have t0 : inR (u 1 0) 12 := hW.2.2.2.2.2.2.2
  obtain ⟨tx, htx, etx⟩ := t0
  have e44 : s 44 16 = nI tx := by
    have : s 44 16 = u 1 0 := hV44.2.2.2.2.2.1.2.2.2.2.2
    rw [this, etx]
  rcases vil_rd hX hPM z12 hkz with ⟨e, s', w', x, a1, a2, a3, a4, a5, a6, a7⟩ | ⟨s', w', x, n2, a1, a2, a3, a4, a5, a6⟩
  · rw [a1, a2]
    simp only [Option.bind_some]
    rw [hcl]
    simp only [Option.bind_some, Bool.false_eq_true, if_false, not_false_iff, if_true]
    rw [if_pos (show ¬ w' 0 12 = -1 by rw [a5]; exact nI_m1 (by omega))]
    simp only [Option.bind_some]
    rw [up_at, if_pos (show (0 : Int32) < 1 by decide), back_cp]
    simp only [Option.bind_some]
    refine ⟨_, _, rfl, rfl, ⟨List.mem_cons_self .., ?_⟩, ?_⟩
    · show cpy (up w' 0 0 1) 3 1 0 0 352 0 0 = 1
      rw [cpy_pl (by decide), up_at]
    · show RR LRx (up (up s' 0 15 (s' 1 2)) 1 1 0) (cpy (up w' 0 0 1) 3 1 0 0 352)
      rw [a4.2.2.2.1]
      exact herr s' w' (nI e) 1 a6 a7 a5
  · rw [a1, a2]
    simp only [Option.bind_some]
    rw [hcl]
    simp only [Option.bind_some, not_true, if_false, if_true]
    rw [if_neg (show ¬ ¬ w' 0 12 = -1 from fun q => q a3)]
    have w10 : w' 1 0 = nI tx := by rw [a6.2.1 0 (by omega), zi 1 (by decide), etx]
    have ag0 : ∀ y : St, ag y 1 752 0 = some (y 1 0) := fun y => ag_nI (k := 0) rfl (by decide) (by decide)
    have s44 : up (up s' 0 15 (-1)) 1 1 0 44 16 = nI tx := by rw [up_pl (by decide), up_pl (by decide), a5 44 (by decide) (by omega)]; exact e44
    rw [ag0, w10, s44]
    simp only [Option.bind_some]
    by_cases h12 : tx = 12
    · subst h12
      rw [if_pos (show (12 : Int32) ≤ nI 12 by decide), if_pos (show nI 12 = 12 from rfl)]
      simp only [Option.bind_some]
      rw [up_at, if_pos (show (0 : Int32) < 2 by decide), back_cp]
      simp only [Option.bind_some]
      refine ⟨_, _, rfl, rfl, ⟨List.mem_cons_of_mem _ (List.mem_cons_self ..), ?_⟩, ?_⟩
      · show cpy (up w' 0 0 2) 3 1 0 0 352 0 0 = 2
        rw [cpy_pl (by decide), up_at]
      · show RR LRx (up (up s' 0 15 (-1)) 1 1 0) (cpy (up w' 0 0 2) 3 1 0 0 352)
        exact herr s' w' (-1) 2 a5 a6 a3
    · rw [if_neg (show ¬ (12 : Int32) ≤ nI tx from fun q => by have := (nI_leI (a := 12) (by decide) (by omega)).mp q; omega), if_neg (show ¬ nI tx = 12 from nIe (o := 12) (by omega) (by decide) h12)]
      simp only [Option.bind_some]
      rw [up_at, if_neg (show ¬ (0 : Int32) < 0 by decide), ag0, up_pl (by decide), w10]
      simp only [Option.bind_some]
      rw [nI_1, show sa (up w' 0 0 0) 1 752 0 (nI (tx + 1)) = some (up (up w' 0 0 0) 1 0 (nI (tx + 1))) from sa_nI (k := 0) rfl (by decide) (by decide)]
      simp only [Option.bind_some]
      rw [ag0, up_pl (by decide), up_at]
      simp only [Option.bind_some]
      obtain ⟨τ, eτ, v1, v2⟩ := bec_ok (σ := up (up s' 0 15 (-1)) 1 1 0) (t := 44) (s := 54) (by omega)
      rw [eτ]
      simp only [Option.bind_some]
      have hV54 : RVd (vd (up (up s' 0 15 (-1)) 1 1 0) 54) (w' 1) n2 := a4.1.mv (fun j hj => by rw [up_pl (by omega), up_pl (by omega)])
      have hVn : RVd (vd τ 44) (w' 1) n2 := hV54.to v1
      have τ16 : τ 44 16 = nI tx := by
        have : τ 44 16 = w' 1 0 := hVn.2.2.2.2.2.1.2.2.2.2.2
        rw [this, w10]
      unfold q4_forget
      simp only [lt_nr, Option.bind_some]
      rw [τ16, nI_1]
      refine ⟨_, _, rfl, rfl, ⟨?_, ?_⟩, ?_⟩
      · show up (up (up w' 0 0 0) 1 0 (nI (tx + 1))) 0 6 0 0 0 = 0
        rw [up_off (by decide), up_pl (by decide), up_at]
      · show up (up τ 44 16 (nI (tx + 1))) 5 1 0 44 16 = nI (tx + 1)
        rw [up_pl (by decide), up_at]
      · show RR LRx (up (up τ 44 16 (nI (tx + 1))) 5 1 0) (up (up (up w' 0 0 0) 1 0 (nI (tx + 1))) 0 6 0)
        obtain ⟨h1, h2, h3, h4, h5, h6⟩ := hR
        have τi : ∀ i, i ≠ 0 → i ≠ 1 → i < 44 ∨ 64 ≤ i → τ i = s i := fun i i0 i1 i2 => by rw [v2 i (by omega), up_pl i1, up_pl i0, a5 i i1 (by omega)]
        refine ⟨⟨n2, ?_, ?_⟩, ⟨0, by omega, ?_, ?_, fun k hk => absurd hk (Nat.not_lt_zero _)⟩, ?_, ?_, ⟨?_, ?_⟩, ?_⟩
        · rw [up_pl (by decide), up_mu, up_pl (by decide)]
          have := hVn.uTx (x := nI (tx + 1))
          rw [← vd_du0] at this
          exact this.mv (fun j hj => up_pl (by omega))
        · rw [up_pl (by decide), up_mu, up_pl (by decide)]
          exact a4.2.uTx hVn.1.1 (inR_nI (by omega))
        · rw [up_pl (by decide), up_pl (by decide), v2 1 (by omega), up_at]; rfl
        · rw [up_off (by decide), up_pl (by decide), up_off (by decide), a6.2.2 8 (by decide) (by decide), z8]; rfl
        · rw [up_pl (by decide), up_pl (by decide), v2 0 (by omega), up_pl (by decide), up_at, up_off (by decide), up_pl (by decide), up_off (by decide), a3]
        · obtain ⟨A, f, d1, d2, d3, d4, d5, d6⟩ := h4
          refine ⟨0, f, by omega, d2, up_at, ?_, up_at, fun a ha => absurd ha (Nat.not_lt_zero _)⟩
          rw [up_off (by decide), up_pl (by decide), τi 5 (by decide) (by decide) (by omega)]; exact d4
        · exact (hflz w' a6).eq (by rw [up_off (by decide), up_pl (by decide), up_off (by decide)]) (by rw [up_off (by decide), up_pl (by decide), up_off (by decide)]) (by rw [up_off (by decide), up_pl (by decide), up_off (by decide)])
        · have e14 : up (up τ 44 16 (nI (tx + 1))) 5 1 0 0 14 = s 0 14 := by rw [up_pl (by decide), up_pl (by decide), v2 0 (by omega), up_pl (by decide), up_off (by decide), a5 0 (by decide) (by omega)]
          have e3 : up (up (up w' 0 0 0) 1 0 (nI (tx + 1))) 0 6 0 0 3 = u 0 3 := by rw [up_off (by decide), up_pl (by decide), up_off (by decide), a6.2.2 3 (by decide) (by decide), zk 3 (by decide) (by decide) (by decide) (by decide) (by decide) (by decide)]
          have e2 : up (up (up w' 0 0 0) 1 0 (nI (tx + 1))) 0 6 0 2 = u 2 := by rw [up_pl (by decide), up_pl (by decide), up_pl (by decide), a6.1 2 (by decide) (by decide), zi 2 (by decide)]
          have e40 : up (up τ 44 16 (nI (tx + 1))) 5 1 0 40 = s 40 := by rw [up_pl (by decide), up_pl (by decide), τi 40 (by decide) (by decide) (by omega)]
          have e41 : up (up τ 44 16 (nI (tx + 1))) 5 1 0 41 = s 41 := by rw [up_pl (by decide), up_pl (by decide), τi 41 (by decide) (by decide) (by omega)]
          rw [e14, e3, e2, e40, e41]
          refine h5.2.imp id (fun q => ⟨q.1, q.2.1, q.2.2.1.to ?_, q.2.2.2⟩)
          refine ⟨?_, ?_, ?_, ?_, ?_, ?_, ?_⟩ <;> intros <;> (try show up (up τ 44 16 (nI (tx + 1))) 5 1 0 _ _ = s _ _) <;> rw [up_pl (by omega), up_pl (by omega), τi _ (by omega) (by omega) (by omega)]
        · have e32 : up (up τ 44 16 (nI (tx + 1))) 5 1 0 32 = s 32 := by rw [up_pl (by decide), up_pl (by decide), τi 32 (by decide) (by decide) (by omega)]
          have e33 : up (up τ 44 16 (nI (tx + 1))) 5 1 0 33 = s 33 := by rw [up_pl (by decide), up_pl (by decide), τi 33 (by decide) (by decide) (by omega)]
          have er : ∀ k, k = 1 ∨ k = 2 ∨ 352 ≤ k → up (up (up w' 0 0 0) 1 0 (nI (tx + 1))) 0 6 0 1 k = u 1 k := fun k hk => by rw [up_pl (by decide), up_off (by omega), up_pl (by decide), a6.2.1 k (by omega), zi 1 (by decide)]
          rw [e32, e33, er 1 (by omega), er 2 (by omega), funext (f := fun k => up (up (up w' 0 0 0) 1 0 (nI (tx + 1))) 0 6 0 1 (352 + k)) (g := fun k => u 1 (352 + k)) (fun k => er (352 + k) (by omega))]
          exact h6

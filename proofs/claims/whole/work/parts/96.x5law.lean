/-! LAYER 2: FAVOUR, BY THE REFERENCE -/
theorem wo_it {α : Type} {c : Prop} {_ : Decidable c} {a b : Option α} {Q : α → Prop} (h : c) (k : Wo a Q) : Wo (if c then a else b) Q := by rw [if_pos h]; exact k
theorem wo_if {α : Type} {c : Prop} {_ : Decidable c} {a b : Option α} {Q : α → Prop} (h : ¬ c) (k : Wo b Q) : Wo (if c then a else b) Q := by rw [if_neg h]; exact k
theorem fav_n {T : TxT} {N : Nat} {ls : List (List Nat × Nat)} (h : lawP T N = .inr ls) : lawP T (if ls.length = 0 then 0 else N) = .inr ls := by
  by_cases h0 : ls.length = 0
  · rw [if_pos h0]
    unfold lawP
    have := sk_b (T := T) (N := 0) (p := 0) (Nat.le_refl _)
    rw [if_pos (by omega)]
    rw [List.length_eq_zero_iff.mp h0]
  · rw [if_neg h0]; exact h
theorem fav12 {ν : St} {n p o : Nat} (hL : ∃ a b c, LRx a b c (ν 1 1) (ν 1 2) (fun k => ν 1 (352 + k))) (hn : n ≤ 6) (hW : WFm (ν 1) n) (hp : p < n) (ho : o < n) : ∃ ν', q12_favourOf ν (nI p) (nI o) = some (favX (ν 1) p o, ν') ∧ (∀ i, i ≠ 0 → i ≠ 6 → ν' i = ν i) ∧ (∀ k, k < 9 ∨ 18 < k ∨ k = 12 → ν' 0 k = ν 0 k) ∧ (o = p → ν' 0 18 = b2i (abX (ν 1) p)) ∧ (RFl ν → RFl ν') := by
  have key : Wo (q12_favourOf ν (nI p) (nI o)) (fun r => r.1 = favX (ν 1) p o ∧ (∀ i, i ≠ 0 → i ≠ 6 → r.2 i = ν i) ∧ (∀ k, k < 9 ∨ 18 < k ∨ k = 12 → r.2 0 k = ν 0 k) ∧ (o = p → r.2 0 18 = b2i (abX (ν 1) p)) ∧ (RFl ν → RFl r.2)) := by
    have hB : ∀ b, isB (b2i b) := fun b => by
      cases b
      · exact Or.inl rfl
      · exact Or.inr rfl
    have hone : ∀ τ : St, τ 1 = ν 1 → (Option.bind (Option.bind (q12_of τ (nI p) 1) fun x12_ => Option.bind (q12_of τ (nI o) 1) fun x14_ => if x12_ = x14_ then (Option.bind (q12_of τ (nI p) 1) fun x17_ => if x17_ < 2 then (some true) else (some false)) else (some false)) fun t10_ => if t10_ = true then (some true) else (some false)) = some (sm2 (ν 1) p o) := fun τ ht => by
      rw [of1 (by omega), of1 (by omega), ht]
      simp only [Option.bind_some]
      unfold sm2
      by_cases h1 : ν 1 (14 + 7 * p + 1) = ν 1 (14 + 7 * o + 1)
      · rw [if_pos h1]
        by_cases h2 : ν 1 (14 + 7 * p + 1) < 2
        · rw [if_pos h2, decide_eq_true ⟨h1, h2⟩]; rfl
        · rw [if_neg h2, decide_eq_false (fun q => h2 q.2)]; rfl
      · rw [if_neg h1, decide_eq_false (fun q => h1 q.1)]; rfl
    unfold q12_favourOf
    simp only [lt_nr]
    have hu : ∀ (τ : St) (k : Nat) (x : Int32), τ 1 = ν 1 → up τ 0 k x 1 = ν 1 := fun τ k x h => by rw [up_pl (by decide)]; exact h
    have hu6 : ∀ (τ : St) (k : Nat) (x : Int32), τ 1 = ν 1 → up τ 6 k x 1 = ν 1 := fun τ k x h => by rw [up_pl (by decide)]; exact h
    refine wo_st (hone _ (hu _ _ _ (hu _ _ _ rfl))) ?_
    have hag : ∀ (τ : St) (k : Nat), k < 752 → τ 1 = ν 1 → ag τ 1 752 (nI k) = some (ν 1 k) := fun τ k hk ht => by rw [ag_nI (k := k) rfl hk (by decide), ht]
    refine wo_st (hag _ 1 (by decide) (hu _ _ _ (hu _ _ _ (hu _ _ _ rfl)))) ?_
    have hlk : ∀ τ : St, τ 1 = ν 1 → q12_liking τ (nI p) (nI o) = some (lk (ν 1) p o) := fun τ ht => lkM ht (by omega) (by omega)
    obtain ⟨a, b, c, hL⟩ := hL
    rcases lr_lines (m := ν 1) hL with ⟨h1, h2⟩ | ⟨N, ls, h1, h2, h3, h4, h4', h5, h6, h7, h8, h9, h11, h10⟩
    · refine wo_it h1 ?_
      refine wo_st (hlk _ (hu _ _ _ (hu _ _ _ (hu _ _ _ rfl)))) ?_
      refine wo_some ⟨?_, fun i i0 _ => ?_, fun k hk => ?_, fun _ => ?_, fun hf => ?_⟩
      · show lk (ν 1) p o + _ = favX (ν 1) p o
        unfold favX
        rw [if_pos h1, up_at]
        cases sm2 (ν 1) p o <;> rfl
      · show up _ 0 _ _ i = _
        rw [up_pl i0, up_pl i0, up_pl i0]
      · show up _ 0 15 _ 0 k = _
        rw [up_off (by omega), up_off (by omega), up_off (by omega)]
      · show up (up (up ν 0 17 0) 0 18 (b2i false)) 0 15 (b2i (sm2 (ν 1) p o)) 0 18 = _
        rw [up_off (by decide), up_at]
        unfold abX
        rw [if_pos h1]
      · refine ⟨?_, ?_, ?_⟩
        · show isB (up (up (up ν 0 17 0) 0 18 (b2i false)) 0 15 (b2i (sm2 (ν 1) p o)) 0 15)
          rw [up_at]; exact hB _
        · show isB (up (up (up ν 0 17 0) 0 18 (b2i false)) 0 15 (b2i (sm2 (ν 1) p o)) 0 16)
          rw [up_off (by decide), up_off (by decide), up_off (by decide)]; exact hf.2.1
        · show isB (up (up (up ν 0 17 0) 0 18 (b2i false)) 0 15 (b2i (sm2 (ν 1) p o)) 0 18)
          rw [up_off (by decide), up_at]; exact hB _
    · refine wo_if h4 ?_
      refine wo_st (sa_nI (k := 0) rfl (by decide) (by decide)) ?_
      refine wo_st (sa_nI (k := 1) rfl (by decide) (by decide)) ?_
      refine wo_st (hlk _ (hu6 _ _ _ (hu6 _ _ _ (hu _ _ _ (hu _ _ _ (hu _ _ _ rfl)))))) ?_
      refine wo_st (sa_nI (k := 2) rfl (by decide) (by decide)) ?_
      have ho0 : ∀ τ : St, τ 1 = ν 1 → q12_of τ (nI o) 0 = some (ν 1 (14 + 7 * o)) := fun τ ht => by rw [of0 (by omega), ht]
      have ho5 : ∀ τ : St, τ 1 = ν 1 → q12_of τ (nI o) 5 = some (ν 1 (14 + 7 * o + 5)) := fun τ ht => by rw [of5 (by omega), ht]
      have ho6 : ∀ τ : St, τ 1 = ν 1 → q12_of τ (nI o) 6 = some (ν 1 (14 + 7 * o + 6)) := fun τ ht => by rw [of6 (by omega), ht]
      have hp2 : ∀ τ : St, τ 1 = ν 1 → q12_of τ (nI p) 2 = some (ν 1 (14 + 7 * p + 2)) := fun τ ht => by rw [of2 (by omega), ht]
      have hp3 : ∀ τ : St, τ 1 = ν 1 → (Option.bind (q12_of τ (nI p) 3) fun x65_ => if x65_ = 1 then (some true) else (some false)) = some (fS (ν 1) p) := fun τ ht => by
        rw [of3 (by omega), ht]
        simp only [Option.bind_some]
        unfold fS
        by_cases h : ν 1 (14 + 7 * p + 3) = 1
        · rw [if_pos h, decide_eq_true h]
        · rw [if_neg h, decide_eq_false h]
      refine wo_st (ho0 _ (hu6 _ _ _ (hu6 _ _ _ (hu6 _ _ _ (hu _ _ _ (hu _ _ _ (hu _ _ _ rfl))))))) ?_
      refine wo_st (sa_nI (k := 3) rfl (by decide) (by decide)) ?_
      refine wo_st (ho5 _ (hu6 _ _ _ (hu6 _ _ _ (hu6 _ _ _ (hu6 _ _ _ (hu _ _ _ (hu _ _ _ (hu _ _ _ rfl)))))))) ?_
      refine wo_st (sa_nI (k := 4) rfl (by decide) (by decide)) ?_
      refine wo_st (ho6 _ (hu6 _ _ _ (hu6 _ _ _ (hu6 _ _ _ (hu6 _ _ _ (hu6 _ _ _ (hu _ _ _ (hu _ _ _ (hu _ _ _ rfl))))))))) ?_
      refine wo_st (sa_nI (k := 5) rfl (by decide) (by decide)) ?_
      refine wo_st (hp2 _ (hu6 _ _ _ (hu6 _ _ _ (hu6 _ _ _ (hu6 _ _ _ (hu6 _ _ _ (hu6 _ _ _ (hu _ _ _ (hu _ _ _ (hu _ _ _ rfl)))))))))) ?_
      refine wo_st (sa_nI (k := 6) rfl (by decide) (by decide)) ?_
      refine wo_st (hp3 _ (hu6 _ _ _ (hu6 _ _ _ (hu6 _ _ _ (hu6 _ _ _ (hu6 _ _ _ (hu6 _ _ _ (hu6 _ _ _ (hu _ _ _ (hu _ _ _ (hu _ _ _ rfl))))))))))) ?_
      have hg : ∃ w : St, w = up (up (up (up (up (up (up (up (up (up ν 0 17 0) 0 18 (b2i false)) 0 15 (b2i (sm2 (ν 1) p o))) 6 0 (nI p)) 6 1 (nI o)) 6 2 (lk (ν 1) p o)) 6 3 (ν 1 (14 + 7 * o))) 6 4 (ν 1 (14 + 7 * o + 5))) 6 5 (ν 1 (14 + 7 * o + 6))) 6 6 (ν 1 (14 + 7 * p + 2)) := ⟨_, rfl⟩
      obtain ⟨w, ew⟩ := hg
      have hw1 : ∀ j, j < 7 → w 6 j = FFx (ν 1) p o j := fun j hj => by
        rw [ew]
        rcases (show j = 0 ∨ j = 1 ∨ j = 2 ∨ j = 3 ∨ j = 4 ∨ j = 5 ∨ j = 6 by omega) with rfl | rfl | rfl | rfl | rfl | rfl | rfl <;> simp [up_eq2, FFx]
      have hwi : ∀ i, i ≠ 0 → i ≠ 6 → w i = ν i := fun i i0 i6 => by
        rw [ew, up_pl i6, up_pl i6, up_pl i6, up_pl i6, up_pl i6, up_pl i6, up_pl i6, up_pl i0, up_pl i0, up_pl i0]
      have hw0 : w 0 = up (up (up ν 0 17 0) 0 18 (b2i false)) 0 15 (b2i (sm2 (ν 1) p o)) 0 := by
        rw [ew, up_pl (by decide), up_pl (by decide), up_pl (by decide), up_pl (by decide), up_pl (by decide), up_pl (by decide), up_pl (by decide)]
      rw [← ew]
      clear ew
      have w1 : w 1 = ν 1 := hwi 1 (by decide) (by decide)
      have hlen : ∀ τ : St, τ 1 = ν 1 → (Option.bind (ag τ 1 752 1) fun x82_ => if x82_ = 0 then (some (0 : Int32)) else (Option.bind (ag τ 1 752 2) fun x85_ => some x85_)) = some (nI (if ls.length = 0 then 0 else N)) := fun τ ht => by
        rw [show (1 : Int32) = nI 1 from rfl, hag τ 1 (by decide) ht, show (2 : Int32) = nI 2 from rfl, hag τ 2 (by decide) ht, h4', h2]
        simp only [Option.bind_some]
        have e0 : nI ls.length = 0 ↔ ls.length = 0 := nI_eq (b := 0) (by omega) (by decide)
        by_cases h0 : ls.length = 0
        · rw [if_pos (e0.mpr h0), if_pos h0]; rfl
        · rw [if_neg (fun q => h0 (e0.mp q)), if_neg h0]
      refine wo_st (hlen _ (hu _ _ _ (hu _ _ _ (hu _ _ _ w1)))) ?_
      generalize hN' : (if ls.length = 0 then 0 else N) = N'
      have hN2 : N' ≤ N := by
        rw [← hN']; split <;> omega
      have hlw : lawP (cT (fun k => ν 1 (352 + k)) N) N' = .inr ls := by rw [← hN']; exact fav_n h3
      generalize hz : up (up (up (up (up (up w 0 16 (b2i (fS (ν 1) p))) 0 12 (-1)) 0 9 352) 0 10 (nI N')) 0 11 0) 0 13 0 = z
      have z0 : ∀ k, k ≠ 16 → k ≠ 12 → k ≠ 9 → k ≠ 10 → k ≠ 11 → k ≠ 13 → z 0 k = w 0 k := fun k k1 k2 k3 k4 k5 k6 => by rw [← hz, up_off k6, up_off k5, up_off k4, up_off k3, up_off k2, up_off k1]
      have zi : ∀ i, i ≠ 0 → z i = w i := fun i hi => by rw [← hz, up_pl hi, up_pl hi, up_pl hi, up_pl hi, up_pl hi, up_pl hi]
      have z9 : z 0 9 = 352 := by rw [← hz, up_off (by decide), up_off (by decide), up_off (by decide), up_at]
      have z10 : z 0 10 = nI N' := by rw [← hz, up_off (by decide), up_off (by decide), up_at]
      have z11 : z 0 11 = nI 0 := by rw [← hz, up_off (by decide), up_at]; rfl
      have z12 : z 0 12 = -1 := by rw [← hz, up_off (by decide), up_off (by decide), up_off (by decide), up_off (by decide), up_at]
      have z13 : z 0 13 = 0 := by rw [← hz, up_at]
      have z15 : z 0 15 = b2i (sm2 (ν 1) p o) := by rw [z0 15 (by decide) (by decide) (by decide) (by decide) (by decide) (by decide), hw0, up_at]
      have z16 : z 0 16 = b2i (fS (ν 1) p) := by rw [← hz, up_off (by decide), up_off (by decide), up_off (by decide), up_off (by decide), up_off (by decide), up_at]
      have z17 : z 0 17 = 0 := by rw [z0 17 (by decide) (by decide) (by decide) (by decide) (by decide) (by decide), hw0, up_off (by decide), up_off (by decide), up_at]
      have z18 : z 0 18 = b2i false := by rw [z0 18 (by decide) (by decide) (by decide) (by decide) (by decide) (by decide), hw0, up_off (by decide), up_at]
      have w12 : up w 0 16 (b2i (fS (ν 1) p)) 0 12 = ν 0 12 := by rw [up_off (by decide), hw0, up_off (by decide), up_off (by decide), up_off (by decide)]
      rw [w12]
      have hPM : PM (cT (fun k => ν 1 (352 + k)) N) N' z 0 := ⟨⟨by omega, Or.inr ⟨z9, fun k hk => by rw [zi 1 (by decide), w1, cT_in (by omega)]⟩, z10⟩, Nat.zero_le _, z11⟩
      have hFc : FcS (FFx (ν 1) p o) z := ⟨fun j hj => by rw [zi 6 (by decide)]; exact hw1 j hj, ⟨_, z15, rfl⟩, _, z16, rfl⟩
      rcases law12 hPM z12 hFc z13 z18 with ⟨e, x, σ', g1, -⟩ | ⟨ls', σ', g1, g2, g3, g4, g5, g6⟩
      · rw [hlw] at g1; cases g1
      · rw [hlw] at g1
        cases g1
        refine wo_st g2 ?_
        have s1 : σ' 1 = ν 1 := by rw [g3 1 (by decide), zi 1 (by decide), w1]
        refine wo_st (hlk _ (hu _ _ _ s1)) ?_
        rw [z17] at g5 g6
        refine wo_some ⟨?_, fun i i0 i6 => ?_, fun k hk => ?_, fun hop => ?_, fun hf => ?_⟩
        · show lk (ν 1) p o + up σ' 0 12 _ 0 17 = favX (ν 1) p o
          unfold favX
          rw [if_neg h4, up_off (by decide), g5, h9]
        · show up σ' 0 12 _ i = _
          rw [up_pl i0, g3 i i0, zi i i0, hwi i i0 i6]
        · show up σ' 0 12 _ 0 k = _
          by_cases k12 : k = 12
          · rw [k12, up_at]
          · rw [up_off k12, g4 k (by omega) (by omega) (by omega), z0 k (by omega) k12 (by omega) (by omega) (by omega) (by omega), hw0, up_off (by omega), up_off (by omega), up_off (by omega)]
        · show up σ' 0 12 (ν 0 12) 0 18 = _
          rw [up_off (by decide), g6]
          unfold abX
          rw [if_neg h4, h9, hop]
        · refine ⟨?_, ?_, ?_⟩
          · show isB (up σ' 0 12 (ν 0 12) 0 15)
            rw [up_off (by decide), g4 15 (by decide) (by decide) (by decide), z15]; exact hB _
          · show isB (up σ' 0 12 (ν 0 12) 0 16)
            rw [up_off (by decide), g4 16 (by decide) (by decide) (by decide), z16]; exact hB _
          · show isB (up σ' 0 12 (ν 0 12) 0 18)
            rw [up_off (by decide), g6]; exact hB _
  obtain ⟨r, er, r1, r2⟩ := key
  obtain ⟨x, ν'⟩ := r
  have r1 : x = favX (ν 1) p o := r1
  subst r1
  exact ⟨ν', er, r2⟩
theorem law_F : LawF LRx favX abX := ⟨fun hL _ hn hW hp ho => fav12 hL hn hW hp ho, fun hv hV hW hL hp ho => fav11 hv hV hW hL hp ho, fun hv hV hW hL hp => abs11 hv hV hW hL hp, fun hL hW hp ho => fav_b hL hW hp ho⟩

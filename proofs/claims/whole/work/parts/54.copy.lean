/-! LAYER 2: COPIES -/
def cpy (σ : St) (a b oa ob K : Nat) : St := fun x => if x = b then (fun j => if ob ≤ j ∧ j < ob + K then σ a (oa + (j - ob)) else σ b j) else σ x
theorem cpy_pl {σ : St} {a b oa ob K x : Nat} (h : x ≠ b) : cpy σ a b oa ob K x = σ x := by unfold cpy; rw [if_neg h]
theorem cpy_in {σ : St} {a b oa ob K j : Nat} (h1 : ob ≤ j) (h2 : j < ob + K) : cpy σ a b oa ob K b j = σ a (oa + (j - ob)) := by
  unfold cpy
  rw [if_pos rfl]
  exact if_pos ⟨h1, h2⟩
theorem cpy_out {σ : St} {a b oa ob K j : Nat} (h : j < ob ∨ ob + K ≤ j) : cpy σ a b oa ob K b j = σ b j := by
  unfold cpy
  rw [if_pos rfl]
  exact if_neg (fun q => by omega)
theorem cpy_0 {σ : St} {a b oa ob : Nat} : cpy σ a b oa ob 0 = σ := by
  funext x j
  by_cases h : x = b
  · subst h; exact cpy_out (by omega)
  · rw [cpy_pl h]
theorem cpy_s {σ : St} {a b oa ob K : Nat} : up (cpy σ a b oa ob K) b (ob + K) (σ a (oa + K)) = cpy σ a b oa ob (K + 1) := by
  funext x j
  rw [up_eq2]
  by_cases h : x = b
  · subst h
    by_cases h2 : j = ob + K
    · subst h2
      rw [if_pos ⟨rfl, rfl⟩, cpy_in (by omega) (by omega)]
      congr 1
      omega
    · rw [if_neg (fun q => h2 q.2)]
      by_cases h3 : ob ≤ j ∧ j < ob + K
      · rw [cpy_in h3.1 h3.2, cpy_in h3.1 (by omega)]
      · rw [cpy_out (by omega), cpy_out (by omega)]
  · rw [if_neg (fun q => h q.1), cpy_pl h, cpy_pl h]
theorem cp_loop {a b na nb K oa ob : Nat} {KI : Int32} {iR iW : Int32 → St → Int32} {σ : St} (hK : KI = nI K) (hK2 : K ≤ 5000) (hR : ∀ k s, k < K → s = cpy σ a b oa ob k → iR (nI k) s = nI (oa + k)) (hW : ∀ k s, k < K → s = cpy σ a b oa ob k → iW (nI k) s = nI (ob + k)) (h1 : oa + K ≤ na) (h2 : ob + K ≤ nb) (h3 : na < 2 ^ 31) (h4 : nb < 2 ^ 31) (hab : a ≠ b ∨ ob ≤ oa) :
    loop2 (fun (rec : Int32 → St → Option (Int32 × St)) (k : Int32) (s : St) => if k < KI then Option.bind (ag s a na (iR k s)) fun x => Option.bind (sa s b nb (iW k s) x) fun s' => lt (k + 1) fun k' => rec k' s' else (some (k, s))) fuelN (0 : Int32) σ = some (nI K, cpy σ a b oa ob K) := by
  have h := lpW2 (body := fun (rec : Int32 → St → Option (Int32 × St)) (k : Int32) (s : St) => if k < KI then Option.bind (ag s a na (iR k s)) fun x => Option.bind (sa s b nb (iW k s) x) fun s' => lt (k + 1) fun k' => rec k' s' else (some (k, s))) (Q := fun r => r = (nI K, cpy σ a b oa ob K)) K (fun n k s => k = nI n ∧ s = cpy σ a b oa ob n) ?_ fuelN 0 0 σ (Nat.zero_le _) (fuel_ok (by omega)) ⟨rfl, cpy_0.symm⟩
  · obtain ⟨r, e, rfl⟩ := h
    exact e
  · rintro rec n k s hn ⟨rfl, rfl⟩ IH
    subst hK
    refine wo_ite (fun hlt => ?_) (fun hge => ?_)
    · have hnK : n < K := (nI_ltI (by omega) (by omega)).mp hlt
      refine wo_st (ag_nI (hR n _ hnK rfl) (by omega) h3) ?_
      refine wo_st (sa_nI (hW n _ hnK rfl) (by omega) h4) ?_
      have e : cpy σ a b oa ob n a (oa + n) = σ a (oa + n) := by
        by_cases hx : a = b
        · subst hx
          exact cpy_out (by omega)
        · rw [cpy_pl hx]
      rw [e, cpy_s]
      show Wo (rec (nI n + 1) _) _
      rw [nI_1]
      exact IH _ _ hnK ⟨rfl, rfl⟩
    · have hnK : n = K := by
        have : ¬ n < K := fun q => hge (nI_lt q (by omega))
        omega
      subst hnK
      exact wo_some rfl
/-- System.arraycopy from 0 to 0 -/
def cp1 (σ : St) (a b n : Nat) : St := fun p => if p = b then (fun k => if k < n then σ a k else σ b k) else σ p
theorem acp_eq {σ : St} {a b n : Nat} {x : Int32} (hx : x = nI n) (hn : n < 2 ^ 31) : acp σ a n b n x = some (cp1 σ a b n) := by
  subst hx
  unfold acp
  rw [nI_clamp hn, if_neg]
  · rfl
  · rintro (h | h | h)
    · exact nI_pos hn h
    · omega
    · omega
theorem cp1_pl {σ : St} {a b n p : Nat} (h : p ≠ b) : cp1 σ a b n p = σ p := by unfold cp1; rw [if_neg h]
theorem cp1_in {σ : St} {a b n k : Nat} (h : k < n) : cp1 σ a b n b k = σ a k := by
  unfold cp1
  rw [if_pos rfl]
  exact if_pos h
theorem logb_ok {σ : St} {t s : Nat} (h : s + 2 ≤ t ∨ t + 2 ≤ s) : Wo (q3_become σ t s) (fun σ' => (∀ k, k < 240 → σ' (t + 1) k = σ (s + 1) k) ∧ σ' t 1 = σ s 1 ∧ σ' t 2 = σ s 2 ∧ ∀ i, i ≠ t → i ≠ t + 1 → σ' i = σ i) := by
  unfold q3_become lt
  refine wo_st (acp_eq (n := 240) rfl (by decide)) (wo_some ⟨fun k hk => ?_, ?_, ?_, fun i h1 h2 => ?_⟩)
  · rw [up_pl (by omega), up_pl (by omega), cp1_in hk]
  · rw [up_off (by decide), up_at, cp1_pl (by omega)]
  · rw [up_at, up_pl (by omega), cp1_pl (by omega)]
  · rw [up_pl h1, up_pl h1, cp1_pl h2]
theorem becl_ok {σ : St} {t s : Nat} (h : s + 4 ≤ t ∨ t + 4 ≤ s) : Wo (q2_become σ t s) (fun σ' => (∀ k, k < 412 → σ' (t + 1) k = σ (s + 1) k) ∧ σ' t 3 = σ s 3 ∧ σ' t 4 = σ s 4 ∧ ∀ i, i ≠ t → i ≠ t + 1 → σ' i = σ i) := by
  unfold q2_become lt
  refine wo_st (acp_eq (n := 412) rfl (by decide)) (wo_some ⟨fun k hk => ?_, ?_, ?_, fun i h1 h2 => ?_⟩)
  · rw [up_pl (by omega), up_pl (by omega), cp1_in hk]
  · rw [up_off (by decide), up_at, cp1_pl (by omega)]
  · rw [up_at, up_pl (by omega), cp1_pl (by omega)]
  · rw [up_pl h1, up_pl h1, cp1_pl h2]
theorem bec_ok {σ : St} {t s : Nat} (h : s + 10 ≤ t ∨ t + 10 ≤ s) : Wo (q10_become σ t s) (fun σ' => VE (vd σ s) (vd σ' t) ∧ ∀ i, i < t ∨ t + 10 ≤ i → σ' i = σ i) := by
  unfold q10_become lt
  refine wo_st (acp_eq (n := 6) rfl (by decide)) ?_
  refine wo_st (acp_eq (n := 6) rfl (by decide)) ?_
  refine wo_st (acp_eq (n := 6) rfl (by decide)) ?_
  refine wo_st (acp_eq (n := 6) rfl (by decide)) ?_
  refine wo_st (acp_eq (n := 6) rfl (by decide)) ?_
  refine wo_st (acp_eq (n := 36) rfl (by decide)) ?_
  refine wo_st (acp_eq (n := 4) rfl (by decide)) ?_
  generalize hτ : cp1 (cp1 (cp1 (cp1 (cp1 (cp1 (cp1 σ (s + 1) (t + 1) 6) (s + 2) (t + 2) 6) (s + 3) (t + 3) 6) (s + 4) (t + 4) 6) (s + 5) (t + 5) 6) (s + 6) (t + 6) 36) (s + 7) (t + 7) 4 = τ
  have a1 : ∀ k, k < 6 → τ (t + 1) k = σ (s + 1) k := fun k hk => by
    rw [← hτ, cp1_pl (by omega), cp1_pl (by omega), cp1_pl (by omega), cp1_pl (by omega), cp1_pl (by omega), cp1_pl (by omega), cp1_in hk]
  have a2 : ∀ k, k < 6 → τ (t + 2) k = σ (s + 2) k := fun k hk => by
    rw [← hτ, cp1_pl (by omega), cp1_pl (by omega), cp1_pl (by omega), cp1_pl (by omega), cp1_pl (by omega), cp1_in hk, cp1_pl (by omega)]
  have a3 : ∀ k, k < 6 → τ (t + 3) k = σ (s + 3) k := fun k hk => by
    rw [← hτ, cp1_pl (by omega), cp1_pl (by omega), cp1_pl (by omega), cp1_pl (by omega), cp1_in hk, cp1_pl (by omega), cp1_pl (by omega)]
  have a4 : ∀ k, k < 6 → τ (t + 4) k = σ (s + 4) k := fun k hk => by
    rw [← hτ, cp1_pl (by omega), cp1_pl (by omega), cp1_pl (by omega), cp1_in hk, cp1_pl (by omega), cp1_pl (by omega), cp1_pl (by omega)]
  have a5 : ∀ k, k < 6 → τ (t + 5) k = σ (s + 5) k := fun k hk => by
    rw [← hτ, cp1_pl (by omega), cp1_pl (by omega), cp1_in hk, cp1_pl (by omega), cp1_pl (by omega), cp1_pl (by omega), cp1_pl (by omega)]
  have a6 : ∀ k, k < 36 → τ (t + 6) k = σ (s + 6) k := fun k hk => by
    rw [← hτ, cp1_pl (by omega), cp1_in hk, cp1_pl (by omega), cp1_pl (by omega), cp1_pl (by omega), cp1_pl (by omega), cp1_pl (by omega)]
  have a7 : ∀ k, k < 4 → τ (t + 7) k = σ (s + 7) k := fun k hk => by
    rw [← hτ, cp1_in hk, cp1_pl (by omega), cp1_pl (by omega), cp1_pl (by omega), cp1_pl (by omega), cp1_pl (by omega), cp1_pl (by omega)]
  have a8 : ∀ i, i < t + 1 ∨ t + 8 ≤ i → τ i = σ i := fun i hi => by
    rw [← hτ, cp1_pl (by omega), cp1_pl (by omega), cp1_pl (by omega), cp1_pl (by omega), cp1_pl (by omega), cp1_pl (by omega), cp1_pl (by omega)]
  refine wo_bind (wo_mono (logb_ok (σ := τ) (t := t + 8) (s := s + 8) (by omega)) ?_)
  rintro ρ ⟨b1, b2, b3, b4⟩
  have c0 : ∀ i, i < t + 1 ∨ t + 10 ≤ i → ρ i = σ i := fun i hi => by rw [b4 i (by omega) (by omega), a8 i (by omega)]
  have cs : ρ s = σ s := c0 s (by omega)
  have hts : s ≠ t := by omega
  refine wo_some ⟨⟨?_, ?_, ?_, ?_, ?_, ?_, ?_⟩, ?_⟩
  · intro j k h1 h2 hk
    show up _ _ _ _ (t + j) k = σ (s + j) k
    rw [up_pl (by omega), up_pl (by omega), up_pl (by omega), up_pl (by omega), up_pl (by omega), up_pl (by omega), up_pl (by omega), up_pl (by omega), up_pl (by omega), b4 _ (by omega) (by omega)]
    rcases (show j = 1 ∨ j = 2 ∨ j = 3 ∨ j = 4 ∨ j = 5 by omega) with rfl | rfl | rfl | rfl | rfl
    · exact a1 k hk
    · exact a2 k hk
    · exact a3 k hk
    · exact a4 k hk
    · exact a5 k hk
  · intro k hk
    show up _ _ _ _ (t + 6) k = σ (s + 6) k
    rw [up_pl (by omega), up_pl (by omega), up_pl (by omega), up_pl (by omega), up_pl (by omega), up_pl (by omega), up_pl (by omega), up_pl (by omega), up_pl (by omega), b4 _ (by omega) (by omega)]
    exact a6 k hk
  · intro k hk
    show up _ _ _ _ (t + 7) k = σ (s + 7) k
    rw [up_pl (by omega), up_pl (by omega), up_pl (by omega), up_pl (by omega), up_pl (by omega), up_pl (by omega), up_pl (by omega), up_pl (by omega), up_pl (by omega), b4 _ (by omega) (by omega)]
    exact a7 k hk
  · show up _ _ _ _ (t + 8) 1 = σ (s + 8) 1
    rw [up_pl (by omega), up_pl (by omega), up_pl (by omega), up_pl (by omega), up_pl (by omega), up_pl (by omega), up_pl (by omega), up_pl (by omega), up_pl (by omega), b2, a8 _ (by omega)]
  · show up _ _ _ _ (t + 8) 2 = σ (s + 8) 2
    rw [up_pl (by omega), up_pl (by omega), up_pl (by omega), up_pl (by omega), up_pl (by omega), up_pl (by omega), up_pl (by omega), up_pl (by omega), up_pl (by omega), b3, a8 _ (by omega)]
  · intro k hk
    show up _ _ _ _ (t + 9) k = σ (s + 9) k
    rw [up_pl (by omega), up_pl (by omega), up_pl (by omega), up_pl (by omega), up_pl (by omega), up_pl (by omega), up_pl (by omega), up_pl (by omega), up_pl (by omega)]
    rw [show t + 9 = t + 8 + 1 from rfl, b1 k hk, a8 _ (by omega)]
  · intro k h1 h2
    show up _ _ _ _ (t + 0) k = σ (s + 0) k
    rw [Nat.add_zero, Nat.add_zero]
    have e : ∀ (ω : St) (q : Nat) (x : Int32), up ω t q x s = ω s := fun ω q x => up_pl hts
    simp only [e, cs]
    rcases (show k = 8 ∨ k = 9 ∨ k = 10 ∨ k = 11 ∨ k = 12 ∨ k = 13 ∨ k = 14 ∨ k = 15 ∨ k = 16 by omega) with rfl | rfl | rfl | rfl | rfl | rfl | rfl | rfl | rfl <;> simp [up_eq2]
  · intro i hi
    rw [up_pl (by omega), up_pl (by omega), up_pl (by omega), up_pl (by omega), up_pl (by omega), up_pl (by omega), up_pl (by omega), up_pl (by omega), up_pl (by omega)]
    exact c0 i (by omega)

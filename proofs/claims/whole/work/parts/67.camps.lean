/-! LAYER 2: FRIENDS; CAMPS -/
def lk (m : Nat → Int32) (p q : Nat) : Int32 := if p = q then 9 else m (63 + 7 * p + q)
def fr (m : Nat → Int32) (p q : Nat) : Int32 := lk m p q + lk m q p
theorem fr_comm {m : Nat → Int32} {p q : Nat} : fr m p q = fr m q p := Int32.add_comm _ _
theorem lkC {σ s : St} {m : Nat → Int32} {n p q : Nat} (hV : RVd (vd σ 44) m n) (h : s (44 + 6) = σ (44 + 6)) (hp : p < n) (hq : q < n) : q10_likingOf s 44 (nI p) (nI q) = some (lk m p q) := by
  have hn := hV.1.1
  unfold lk
  by_cases e : p = q
  · subst e
    rw [if_pos rfl]
    exact likingOf_eq
  · rw [if_neg e, likingOf_ne (by omega) (by omega) e, h]
    exact congrArg some (hV.2.2.2.1 p q hp hq e)
theorem lkM {ν : St} {m : Nat → Int32} {p q : Nat} (h : ν 1 = m) (hp : p < 6) (hq : q < 6) : q12_liking ν (nI p) (nI q) = some (lk m p q) := by
  unfold lk
  by_cases e : p = q
  · subst e
    rw [if_pos rfl]
    exact liking_eq
  · rw [if_neg e, liking_ne (by omega) (by omega) e, h]
theorem frM {ν : St} {m : Nat → Int32} {p q : Nat} (h : ν 1 = m) (hp : p < 6) (hq : q < 6) : q12_friends ν (nI p) (nI q) = some (fr m p q) := by
  unfold q12_friends
  rw [lkM h hp hq, lkM h hq hp]
  rfl
def frN (m : Nat → Int32) (p q : Nat) : Nat := min 18 (fr m p q).toNatClampNeg
theorem frN_le {m : Nat → Int32} {p q : Nat} : frN m p q ≤ 18 := Nat.min_le_left _ _
theorem frN_comm {m : Nat → Int32} {p q : Nat} : frN m p q = frN m q p := by unfold frN; rw [fr_comm]
theorem lk_in {m : Nat → Int32} {n p q : Nat} (hW : WFm m n) (hp : p < n) (hq : q < n) : inR (lk m p q) 9 := by
  unfold lk
  by_cases e : p = q
  · rw [if_pos e]; exact inR_nI (a := 9) (Nat.le_refl _)
  · rw [if_neg e]; exact hW.2.1 p q hp hq e
theorem fr_nI {m : Nat → Int32} {n p q : Nat} (hW : WFm m n) (hp : p < n) (hq : q < n) : fr m p q = nI (frN m p q) := by
  obtain ⟨a, ha, ea⟩ := lk_in hW hp hq
  obtain ⟨b, hb, eb⟩ := lk_in hW hq hp
  have e : fr m p q = nI (a + b) := by unfold fr; rw [ea, eb, nI_add]
  unfold frN
  rw [e, nI_clamp (by omega), Nat.min_eq_right (by omega)]
def MetV (σ σ' : St) (m : Nat → Int32) (n : Nat) : Prop := σ' 27 3 = nI n ∧ σ' 27 4 = nI (2 ^ n - 1) ∧ (∀ p q, p < n → q < n → σ' 28 (p * 6 + q) = fr m p q) ∧ ∀ i, i ≠ 27 → i ≠ 28 → σ' i = σ i
theorem meet_ok {σ : St} {m : Nat → Int32} {n : Nat} (hV : RVd (vd σ 44) m n) : Wo (q1_meet σ 44) (fun σ' => MetV σ σ' m n) := by
  have hn := hV.1.1
  have h8 : σ 44 8 = nI n := hV.1.2.1
  unfold q1_meet q10_everybody
  dsimp only [lt]
  have e1 : up (up σ 27 3 (σ 44 8)) 27 4 (shl 1 (up σ 27 3 (σ 44 8) 44 8) - 1) 27 3 = nI n := by rw [up_off (by decide), up_at, h8]
  have e2 : up (up σ 27 3 (σ 44 8)) 27 4 (shl 1 (up σ 27 3 (σ 44 8) 44 8) - 1) 27 4 = nI (2 ^ n - 1) := by rw [up_at, up_pl (by decide), h8, all_nI n (by omega)]
  have e3 : ∀ i, i ≠ 27 → up (up σ 27 3 (σ 44 8)) 27 4 (shl 1 (up σ 27 3 (σ 44 8) 44 8) - 1) i = σ i := fun i hi => by rw [up_pl hi, up_pl hi]
  generalize up (up σ 27 3 (σ 44 8)) 27 4 (shl 1 (up σ 27 3 (σ 44 8) 44 8) - 1) = τ at e1 e2 e3
  refine wo_bind ?_
  refine lpW2 n (fun k p s => p = nI k ∧ s 27 3 = nI n ∧ s 27 4 = nI (2 ^ n - 1) ∧ (∀ a b, a < k → b < n → s 28 (a * 6 + b) = fr m a b) ∧ ∀ i, i ≠ 27 → i ≠ 28 → s i = σ i) ?_ fuelN 0 0 τ (Nat.zero_le _) (fuel_ok (by omega)) ⟨rfl, e1, e2, fun a b ha => absurd ha (Nat.not_lt_zero _), fun i h1 _ => e3 i h1⟩
  rintro rec k p s hk ⟨rfl, s1, s2, s3, s4⟩ IH
  rw [s1]
  refine wo_ite (fun hlt => ?_) (fun hge => ?_)
  · have hkn : k < n := (nI_ltI (by omega) (by omega)).mp hlt
    refine wo_bind ?_
    refine lpW2 n (fun j q u => q = nI j ∧ u 27 3 = nI n ∧ u 27 4 = nI (2 ^ n - 1) ∧ (∀ a b, a < k → b < n → u 28 (a * 6 + b) = fr m a b) ∧ (∀ b, b < j → u 28 (k * 6 + b) = fr m k b) ∧ ∀ i, i ≠ 27 → i ≠ 28 → u i = σ i) ?_ fuelN 0 0 s (Nat.zero_le _) (fuel_ok (by omega)) ⟨rfl, s1, s2, s3, fun b hb => absurd hb (Nat.not_lt_zero _), s4⟩
    rintro rec2 j q u hj ⟨rfl, u1, u2, u3, u4, u5⟩ IH2
    rw [u1]
    refine wo_ite (fun hlt2 => ?_) (fun hge2 => ?_)
    · have hjn : j < n := (nI_ltI (by omega) (by omega)).mp hlt2
      rw [lkC hV (u5 _ (by decide) (by decide)) hkn hjn, lkC hV (u5 _ (by decide) (by decide)) hjn hkn]
      simp only [Option.bind_some]
      rw [sa_nI (ix_6 k j) (by omega) (by decide)]
      simp only [Option.bind_some]
      rw [nI_1]
      refine IH2 _ _ hjn ⟨rfl, by rw [up_pl (by decide)]; exact u1, by rw [up_pl (by decide)]; exact u2, fun a b ha hb => ?_, fun b hb => ?_, fun i h1 h2 => by rw [up_pl h2]; exact u5 i h1 h2⟩
      · rw [up_off (by omega)]; exact u3 a b ha hb
      · by_cases hbj : b = j
        · subst hbj
          rw [up_at]
          rfl
        · rw [up_off (by omega)]; exact u4 b (by omega)
    · have hjn : j = n := by
        have : ¬ j < n := fun q => hge2 (nI_lt q (by omega))
        omega
      subst hjn
      refine wo_some ?_
      show Wo (rec (nI k + 1) u) _
      rw [nI_1]
      refine IH _ _ hkn ⟨rfl, u1, u2, fun a b ha hb => ?_, u5⟩
      by_cases hak : a = k
      · subst hak; exact u4 b hb
      · exact u3 a b (by omega) hb
  · have : k = n := by
      have : ¬ k < n := fun q => hge (nI_lt q (by omega))
      omega
    subst this
    exact wo_some (wo_some ⟨s1, s2, s3, s4⟩)
theorem RR.met {LR : LRT} {σ σ' μ : St} {m : Nat → Int32} {n : Nat} (h : RR LR σ μ) (e : MetV σ σ' m n) : RR LR σ' μ := h.sC (fun i hi => e.2.2.2 i (by unfold keepC at hi; omega) (by unfold keepC at hi; omega)) (by rw [e.2.2.2 1 (by decide) (by decide)]) (by rw [e.2.2.2 32 (by decide) (by decide)]) (by rw [e.2.2.2 32 (by decide) (by decide)])
/-! sums over pairs -/
theorem sm_add {u v : Nat → Nat} : ∀ M, sm (fun j => u j + v j) M = sm u M + sm v M
  | 0 => rfl
  | M + 1 => by rw [sm_s, sm_s, sm_s, sm_add M]; omega
theorem sm_0 {f : Nat → Nat} : ∀ {n : Nat}, (∀ k, k < n → f k = 0) → sm f n = 0
  | 0, _ => rfl
  | n + 1, h => by rw [sm_s, sm_0 (fun k hk => h k (by omega)), h n (by omega)]
theorem sm_pair (g : Nat → Nat → Nat) (hg : ∀ a, g a a = 0) : ∀ n, sm (fun a => sm (fun b => if a < b then g a b + g b a else 0) n) n = sm (fun a => sm (g a) n) n
  | 0 => rfl
  | n + 1 => by
    have ih := sm_pair g hg n
    have e1 : sm (fun a => sm (fun b => if a < b then g a b + g b a else 0) (n + 1)) (n + 1) = sm (fun a => sm (fun b => if a < b then g a b + g b a else 0) n) n + sm (fun a => g a n + g n a) n := by
      rw [sm_s, sm_0 (f := fun b => if n < b then g n b + g b n else 0) (n := n + 1) (fun k hk => if_neg (by omega)), Nat.add_zero]
      rw [sm_congr (g := fun a => sm (fun b => if a < b then g a b + g b a else 0) n + (g a n + g n a)) (fun a ha => by
        show sm _ (n + 1) = _
        rw [sm_s, if_pos ha])]
      exact sm_add (u := fun a => sm (fun b => if a < b then g a b + g b a else 0) n) (v := fun a => g a n + g n a) n
    have e2 : sm (fun a => sm (g a) (n + 1)) (n + 1) = sm (fun a => sm (g a) n) n + sm (fun a => g a n) n + sm (g n) n := by
      rw [sm_s, sm_s, hg n]
      rw [sm_congr (g := fun a => sm (g a) n + g a n) (fun a ha => by
        show sm _ (n + 1) = _
        rw [sm_s])]
      rw [sm_add (u := fun a => sm (g a) n) (v := fun a => g a n) n]
      rfl
    rw [e1, e2, ih, sm_add (u := fun a => g a n) (v := fun a => g n a) n]
    show _ + (_ + sm (g n) n) = _
    omega
def acr (m : Nat → Int32) (c : Int32) (p q : Nat) : Nat := if q11_isIn c (nI p) = true ∧ ¬ q11_isIn c (nI q) = true then frN m p q else 0
theorem acr_le {m : Nat → Int32} {c : Int32} (p q : Nat) : acr m c p q ≤ 18 := by
  unfold acr
  have := frN_le (m := m) (p := p) (q := q)
  split <;> omega
theorem acr_self {m : Nat → Int32} {c : Int32} (p : Nat) : acr m c p p = 0 := if_neg (fun q => q.2 q.1)
def acrS (m : Nat → Int32) (n : Nat) (c : Int32) : Nat := sm (fun p => sm (acr m c p) n) n
theorem acrS_le {m : Nat → Int32} {n : Nat} {c : Int32} (hn : n ≤ 6) : acrS m n c ≤ 648 := by
  have h1 : ∀ p, sm (acr m c p) n ≤ 108 := fun p => Nat.le_trans (sm_le (acr_le p) n) (by omega)
  have h2 : acrS m n c ≤ 108 * n := sm_le h1 n
  omega
theorem across_ok {σ σ' : St} {m : Nat → Int32} {n : Nat} (hn : n ≤ 6) (hW : WFm m n) (h : MetV σ σ' m n) (c : Int32) : q1_acrossTo σ' c = some (nI (acrS m n c)) := by
  have key : Wo (q1_acrossTo σ' c) (fun r => r = nI (acrS m n c)) := by
    unfold q1_acrossTo
    dsimp only [lt]
    refine wo_bind ?_
    refine lpW2 n (fun k a p => p = nI k ∧ a = nI (sm (fun p => sm (acr m c p) n) k)) ?_ fuelN 0 0 0 (Nat.zero_le _) (fuel_ok (by omega)) ⟨rfl, rfl⟩
    rintro rec k a p hk ⟨rfl, rfl⟩ IH
    rw [h.1]
    refine wo_ite (fun hlt => ?_) (fun hge => ?_)
    · have hkn : k < n := (nI_ltI (by omega) (by omega)).mp hlt
      refine wo_bind ?_
      refine lpW2 n (fun j a q => q = nI j ∧ a = nI (sm (fun p => sm (acr m c p) n) k + sm (acr m c k) j)) ?_ fuelN 0 _ 0 (Nat.zero_le _) (fuel_ok (by omega)) ⟨rfl, rfl⟩
      rintro rec2 j a q hj ⟨rfl, rfl⟩ IH2
      refine wo_ite (fun hlt2 => ?_) (fun hge2 => ?_)
      · have hjn : j < n := (nI_ltI (by omega) (by omega)).mp hlt2
        have ha : acr m c k j = if q11_isIn c (nI k) = true ∧ ¬ q11_isIn c (nI j) = true then frN m k j else 0 := rfl
        by_cases hc : q11_isIn c (nI k) = true ∧ ¬ q11_isIn c (nI j) = true
        · rw [if_pos hc] at ha
          rw [if_pos hc, ag_nI (ix_6 k j) (by omega) (by decide), h.2.2.1 k j hkn hjn, fr_nI hW hkn hjn]
          simp only [Option.bind_some]
          rw [nI_add, nI_1]
          exact IH2 _ _ hjn ⟨rfl, by rw [sm_s, ha, Nat.add_assoc]⟩
        · rw [if_neg hc] at ha
          rw [if_neg hc]
          simp only [Option.bind_some]
          rw [nI_1]
          exact IH2 _ _ hjn ⟨rfl, by rw [sm_s, ha, Nat.add_zero]⟩
      · have hjn : j = n := by
          have : ¬ j < n := fun q => hge2 (nI_lt q (by omega))
          omega
        subst hjn
        refine wo_some ?_
        show Wo (rec _ (nI k + 1)) _
        rw [nI_1]
        exact IH _ _ hkn ⟨rfl, by rw [sm_s]⟩
    · have : k = n := by
        have : ¬ k < n := fun q => hge (nI_lt q (by omega))
        omega
      subst this
      exact wo_some (wo_some rfl)
  obtain ⟨r, e, rfl⟩ := key
  exact e
theorem op_camps {LR : LRT} : Op_camps (RR LR) := by
  intro σ μ hR
  obtain ⟨n, ⟨hn, h8, h3⟩, hV, hW⟩ := hR.nn
  obtain ⟨σ', eσ, hM⟩ := meet_ok hV
  have hp := pow_le6 hn
  have hpp : 0 < 2 ^ n := Nat.pow_pos (by omega)
  have key : R2 (q1_secondCamp σ') (q12_camps μ) (fun a b => a = b.1 ∧ b.2 = up μ 0 0 0) := by
    unfold q1_secondCamp q12_camps
    dsimp only [lt]
    refine r2_bind ?_
    refine lpR33 32 (fun k a l p b l' q => p = nI (2 * k + 2) ∧ q = nI (2 * k + 2) ∧ a = b ∧ ((a = -1 ∧ l' = 2000000000) ∨ (a ≠ -1 ∧ l = l'))) ?_ fuelN fuelN 0 (-1) 0 2 (-1) 2000000000 2 (Nat.zero_le _) (fuel_ok (by omega)) (fuel_ok (by omega)) ⟨rfl, rfl, rfl, Or.inl ⟨rfl, rfl⟩⟩
    rintro u v k a l p b l' q hk ⟨rfl, rfl, rfl, hal⟩ IH
    refine r2_R (all_ok (n := n) (by rw [up0_1]; exact h3)) ?_
    rw [hM.2.1, all_nI n (by omega)]
    refine r2_ite Iff.rfl (fun hle => ?_) (fun _ => r2_some (r2_some ⟨rfl, rfl⟩))
    have hk2 : 2 * k + 2 ≤ 2 ^ n - 1 := (nI_leI (by omega) (by omega)).mp hle
    rw [across_ok hn hW hM]
    have hin : Wo (loop2 (fun (rec23_ : Int32 → Int32 → Option (Int32 × Int32)) (n26_ : Int32) (a27_ : Int32) =>
        Option.bind (ag (up μ 0 0 0) 1 752 3) fun x32_ =>
        if a27_ < x32_ then
        Option.bind (loop2 (fun (rec41_ : Int32 → Int32 → Option (Int32 × Int32)) (n44_ : Int32) (b45_ : Int32) =>
        Option.bind (ag (up μ 0 0 0) 1 752 3) fun x50_ =>
        if b45_ < x50_ then
        Option.bind (if ¬ (b2i (q12_isOf (nI (2 * k + 2)) a27_)) = (b2i (q12_isOf (nI (2 * k + 2)) b45_)) then (Option.bind (q12_friends (up μ 0 0 0) a27_ b45_) fun x60_ =>
        some x60_) else (some (0 : Int32))) fun x54_ =>
        rec41_ (n44_ + x54_) (b45_ + 1)
        else (some (n44_, b45_))) fuelN n26_ (a27_ + 1)) fun y38_ =>
        rec23_ y38_.1 (a27_ + 1)
        else (some (n26_, a27_))) fuelN (0 : Int32) (0 : Int32)) (fun r => r.1 = nI (acrS (μ 1) n (nI (2 * k + 2)))) := by
      have hsum : acrS (μ 1) n (nI (2 * k + 2)) = sm (fun a => sm (fun b => if a < b then acr (μ 1) (nI (2 * k + 2)) a b + acr (μ 1) (nI (2 * k + 2)) b a else 0) n) n := (sm_pair _ acr_self n).symm
      rw [hsum]
      refine lpW2 n (fun j a p => p = nI j ∧ a = nI (sm (fun a => sm (fun b => if a < b then acr (μ 1) (nI (2 * k + 2)) a b + acr (μ 1) (nI (2 * k + 2)) b a else 0) n) j)) ?_ fuelN 0 0 0 (Nat.zero_le _) (fuel_ok (by omega)) ⟨rfl, rfl⟩
      rintro rec j a p hj ⟨rfl, rfl⟩ IHo
      refine wo_st ag3 ?_
      rw [up0_1, h3]
      refine wo_ite (fun hlt => ?_) (fun hge => ?_)
      · have hjn : j < n := (nI_ltI (by omega) (by omega)).mp hlt
        refine wo_bind ?_
        rw [nI_1]
        have hz : sm (fun b => if j < b then acr (μ 1) (nI (2 * k + 2)) j b + acr (μ 1) (nI (2 * k + 2)) b j else 0) (j + 1) = 0 := sm_0 (fun b hb => if_neg (by omega))
        refine lpW2 n (fun i a p => j + 1 ≤ i ∧ p = nI i ∧ a = nI (sm (fun a => sm (fun b => if a < b then acr (μ 1) (nI (2 * k + 2)) a b + acr (μ 1) (nI (2 * k + 2)) b a else 0) n) j + sm (fun b => if j < b then acr (μ 1) (nI (2 * k + 2)) j b + acr (μ 1) (nI (2 * k + 2)) b j else 0) i)) ?_ fuelN (j + 1) _ _ hjn (fuel_ok (by omega)) ⟨Nat.le_refl _, rfl, by rw [hz]; rfl⟩
        rintro rec2 i a p hi ⟨hji, rfl, rfl⟩ IH2
        refine wo_st ag3 ?_
        rw [up0_1, h3]
        refine wo_ite (fun hlt2 => ?_) (fun hge2 => ?_)
        · have hin : i < n := (nI_ltI (by omega) (by omega)).mp hlt2
          have hx : (if ¬ (b2i (q12_isOf (nI (2 * k + 2)) (nI j))) = (b2i (q12_isOf (nI (2 * k + 2)) (nI i))) then (Option.bind (q12_friends (up μ 0 0 0) (nI j) (nI i)) fun x60_ => some x60_) else (some (0 : Int32))) = some (nI (acr (μ 1) (nI (2 * k + 2)) j i + acr (μ 1) (nI (2 * k + 2)) i j)) := by
            rw [frM up0_1 (by omega) (by omega), fr_nI hW hjn hin, isOf_isIn, isOf_isIn]
            unfold acr
            rw [frN_comm (p := i)]
            cases q11_isIn (nI (2 * k + 2)) (nI j) <;> cases q11_isIn (nI (2 * k + 2)) (nI i) <;> simp [b2i] <;> rfl
          rw [hx]
          simp only [Option.bind_some]
          rw [nI_add, nI_1]
          refine IH2 _ _ hin ⟨by omega, rfl, ?_⟩
          rw [sm_s, if_pos (show j < i by omega), Nat.add_assoc]
        · have hjn2 : i = n := by
            have : ¬ i < n := fun q => hge2 (nI_lt q (by omega))
            omega
          subst hjn2
          refine wo_some ?_
          show Wo (rec _ (nI (j + 1))) _
          exact IHo _ _ hjn ⟨rfl, by rw [sm_s]⟩
      · have : j = n := by
          have : ¬ j < n := fun q => hge (nI_lt q (by omega))
          omega
        subst this
        exact wo_some rfl
    obtain ⟨⟨r, r'⟩, er, hr⟩ := hin
    dsimp only at hr
    subst hr
    refine r2_L rfl ?_
    refine r2_R er ?_
    have hb := acrS_le (m := μ 1) (c := nI (2 * k + 2)) hn
    dsimp only
    have e2 : nI (2 * k + 2) + 2 = nI (2 * (k + 1) + 2) := nI_add (2 * k + 2) 2
    have hm1 : nI (2 * k + 2) ≠ -1 := nI_m1 (by omega)
    generalize acrS (μ 1) n (nI (2 * k + 2)) = x at hb
    rcases hal with ⟨rfl, rfl⟩ | ⟨ha, rfl⟩
    · rw [if_pos (Or.inl rfl), if_neg (fun q => by
        have := (nI_leI (a := 2000000000) (b := x) (by omega) (by omega)).mp q
        omega), e2]
      exact IH _ _ _ _ _ _ (by omega) ⟨rfl, rfl, rfl, Or.inr ⟨hm1, rfl⟩⟩
    · by_cases hc : nI x < l
      · rw [if_pos (Or.inr hc), if_neg (Int32.not_le.mpr hc), e2]
        exact IH _ _ _ _ _ _ (by omega) ⟨rfl, rfl, rfl, Or.inr ⟨hm1, rfl⟩⟩
      · rw [if_neg (fun q => q.elim ha hc), if_pos (Int32.not_lt.mp hc), e2]
        exact IH _ _ _ _ _ _ (by omega) ⟨rfl, rfl, rfl, Or.inr ⟨ha, rfl⟩⟩
  obtain ⟨a, b, e1, e2, e3, e4⟩ := key
  refine ⟨(a, σ'), b, ?_, e2, e3, ?_⟩
  · unfold q11_camps
    rw [eσ]
    simp only [Option.bind_some]
    rw [e1]
    rfl
  · rw [e4]
    exact (hR.met hM).t0

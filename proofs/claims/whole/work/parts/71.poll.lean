/-! LAYER 2: THE POLL, GIVEN WHAT THE LAW SAYS -/
/-- what is asked of the law's relation: both weigh alike -/
abbrev FavT : Type := (Nat → Int32) → Nat → Nat → Int32
abbrev AbsT : Type := (Nat → Int32) → Nat → Bool
def LawF (LR : LRT) (fav : FavT) (ab : AbsT) : Prop := (∀ {ν : St} {n p o : Nat}, (∃ a b c, LR a b c (ν 1 1) (ν 1 2) (fun k => ν 1 (352 + k))) → ν 1 3 = nI n → n ≤ 6 → WFm (ν 1) n → p < n → o < n → ∃ ν', q12_favourOf ν (nI p) (nI o) = some (fav (ν 1) p o, ν') ∧ (∀ i, i ≠ 0 → i ≠ 6 → ν' i = ν i) ∧ (∀ k, k < 9 ∨ 18 < k ∨ k = 12 → ν' 0 k = ν 0 k) ∧ (o = p → ν' 0 18 = b2i (ab (ν 1) p)) ∧ (RFl ν → RFl ν')) ∧ (∀ {σ : St} {m : Nat → Int32} {v n p o : Nat}, v = 44 ∨ v = 54 → RVd (vd σ v) m n → WFm m n → LR (σ 32 3) (σ 32 4) (σ 33) (m 1) (m 2) (fun k => m (352 + k)) → p < n → o < n → ∃ σ', q2_favourOf σ 32 v (nI p) (nI o) = some (fav m p o, σ') ∧ (∀ i, i ≠ 32 → i ≠ 34 → i ≠ 35 → σ' i = σ i) ∧ ∀ k, k ≠ 5 → k ≠ 6 → σ' 32 k = σ 32 k) ∧ (∀ {σ : St} {m : Nat → Int32} {v n p : Nat}, v = 44 ∨ v = 54 → RVd (vd σ v) m n → WFm m n → LR (σ 32 3) (σ 32 4) (σ 33) (m 1) (m 2) (fun k => m (352 + k)) → p < n → ∃ σ', q2_keepsFromVoting σ 32 v (nI p) = some (ab m p, σ') ∧ (∀ i, i ≠ 32 → i ≠ 34 → i ≠ 35 → σ' i = σ i) ∧ ∀ k, k ≠ 5 → k ≠ 6 → σ' 32 k = σ 32 k) ∧ (∀ {m : Nat → Int32} {n p o : Nat}, (∃ a b c, LR a b c (m 1) (m 2) (fun k => m (352 + k))) → WFm m n → p < n → o < n → -100000000 ≤ (fav m p o).toInt ∧ (fav m p o).toInt ≤ 100000000)
def fRn (m : Nat → Int32) (p : Nat) : Bool := fS m p && !fB m p
def fVt (ab : AbsT) (m : Nat → Int32) (p : Nat) : Bool := !fB m p && !ab m p
theorem and_not : ∀ a, a < 64 → ∀ b, b < 64 → nI a &&& (nI b ^^^ (-1)) = nI (a - (a &&& b)) := by decide +kernel
theorem bs_and (f g : Nat → Bool) (n : Nat) : bs f n &&& bs g n = bs (fun p => f p && g p) n := by
  apply Nat.eq_of_testBit_eq
  intro i
  rw [Nat.testBit_and]
  by_cases h : i < n
  · rw [bs_bit f n i h, bs_bit g n i h, bs_bit _ n i h]
  · rw [bs_bit_ge f (by omega), bs_bit_ge (n := n) (fun p => f p && g p) (by omega)]
    rfl
theorem bs_split (f g : Nat → Bool) : ∀ n, bs f n = bs (fun p => f p && g p) n + bs (fun p => f p && !g p) n
  | 0 => rfl
  | n + 1 => by
    have ih := bs_split f g n
    unfold bs
    rw [ih]
    cases f n <;> cases g n <;> simp only [Bool.and_self, Bool.false_and, Bool.and_false, Bool.true_and, Bool.not_true, Bool.not_false, Bool.false_eq_true, if_false, if_true] <;> omega
theorem run_bs {f g : Nat → Bool} {n : Nat} (hn : n ≤ 6) : nI (bs f n) &&& (nI (bs g n) ^^^ (-1)) = nI (bs (fun p => f p && !g p) n) := by
  rw [and_not _ (bs_le hn f) _ (bs_le hn g), bs_and]
  have := bs_split f g n
  congr 1
  omega
/-- the poll of the class -/
def HeldC (fav : FavT) (ab : AbsT) (σ s : St) (m : Nat → Int32) (n : Nat) : Prop := s 6 6 = nI n ∧ s 6 7 = nI (bs (fRn m) n) ∧ s 6 8 = bcount (nI (bs (fRn m) n)) ∧ s 6 9 = nI (bs (fVt ab m) n) ∧ (∀ p, p < n → fVt ab m p = true → ∀ x, x < n → fRn m x = true → s 7 (p * 6 + ps (fRn m) (fav m p) n x) = nI x ∧ s 8 (p * 6 + x) = nI (ps (fRn m) (fav m p) n x)) ∧ (∀ i, i < 6 ∨ 9 < i → i ≠ 32 → i ≠ 34 → i ≠ 35 → s i = σ i) ∧ ∀ k, k ≠ 5 → k ≠ 6 → s 32 k = σ 32 k
theorem RVd.mv {σ s : St} {m : Nat → Int32} {v n : Nat} (h : RVd (vd σ v) m n) (e : ∀ j, j < 10 → s (v + j) = σ (v + j)) : RVd (vd s v) m n := by
  refine h.to ⟨?_, ?_, ?_, ?_, ?_, ?_, ?_⟩ <;> intros <;> (try show s _ _ = σ _ _) <;> first | rw [e _ (by omega)] | (show s (v + 0) _ = σ (v + 0) _; rw [e 0 (by omega)])
theorem hold_ok {LR : LRT} {fav : FavT} {ab : AbsT} (L : LawF LR fav ab) {σ : St} {m : Nat → Int32} {v n : Nat} (hv : v = 44 ∨ v = 54) (hV : RVd (vd σ v) m n) (hW : WFm m n) (hL : LR (σ 32 3) (σ 32 4) (σ 33) (m 1) (m 2) (fun k => m (352 + k))) : Wo (q5_hold σ v 32) (fun s => HeldC fav ab σ s m n) := by
  have hn := hV.1.1
  have h8 : σ v 8 = nI n := hV.1.2.1
  have h9 : σ v 9 = nI (bs (fS m) n) := hV.2.2.1.1
  have h10 : σ v 10 = nI (bs (fB m) n) := hV.2.2.1.2
  have hv6 : v ≠ 6 := by omega
  unfold q5_hold q10_runners
  dsimp only [lt]
  have eR : up σ 6 6 (σ v 8) v 9 &&& (up σ 6 6 (σ v 8) v 10 ^^^ -1) = nI (bs (fRn m) n) := by
    rw [up_pl hv6, h9, h10, run_bs hn]
    rfl
  rw [eR, up_at (σ := up σ 6 6 (σ v 8)) (i := 6) (k := 7)]
  have t6 : up (up (up (up σ 6 6 (σ v 8)) 6 7 (nI (bs (fRn m) n))) 6 8 (bcount (nI (bs (fRn m) n)))) 6 9 0 6 6 = nI n := by rw [up_off (by decide), up_off (by decide), up_off (by decide), up_at, h8]
  have t7 : up (up (up (up σ 6 6 (σ v 8)) 6 7 (nI (bs (fRn m) n))) 6 8 (bcount (nI (bs (fRn m) n)))) 6 9 0 6 7 = nI (bs (fRn m) n) := by rw [up_off (by decide), up_off (by decide), up_at]
  have t8 : up (up (up (up σ 6 6 (σ v 8)) 6 7 (nI (bs (fRn m) n))) 6 8 (bcount (nI (bs (fRn m) n)))) 6 9 0 6 8 = bcount (nI (bs (fRn m) n)) := by rw [up_off (by decide), up_at]
  have t9 : up (up (up (up σ 6 6 (σ v 8)) 6 7 (nI (bs (fRn m) n))) 6 8 (bcount (nI (bs (fRn m) n)))) 6 9 0 6 9 = 0 := up_at
  have tf : ∀ i, i ≠ 6 → up (up (up (up σ 6 6 (σ v 8)) 6 7 (nI (bs (fRn m) n))) 6 8 (bcount (nI (bs (fRn m) n)))) 6 9 0 i = σ i := fun i hi => by rw [up_pl hi, up_pl hi, up_pl hi, up_pl hi]
  generalize up (up (up (up σ 6 6 (σ v 8)) 6 7 (nI (bs (fRn m) n))) 6 8 (bcount (nI (bs (fRn m) n)))) 6 9 0 = τ at t6 t7 t8 t9 tf
  refine wo_bind ?_
  refine lpW2 n (fun k a s => a = nI k ∧ s 6 6 = nI n ∧ s 6 7 = nI (bs (fRn m) n) ∧ s 6 8 = bcount (nI (bs (fRn m) n)) ∧ s 6 9 = nI (bs (fVt ab m) k) ∧ (∀ p, p < k → fVt ab m p = true → ∀ x, x < n → fRn m x = true → s 7 (p * 6 + ps (fRn m) (fav m p) n x) = nI x ∧ s 8 (p * 6 + x) = nI (ps (fRn m) (fav m p) n x)) ∧ (∀ i, i < 6 ∨ 9 < i → i ≠ 32 → i ≠ 34 → i ≠ 35 → s i = σ i) ∧ ∀ k, k ≠ 5 → k ≠ 6 → s 32 k = σ 32 k) ?_ fuelN 0 0 τ (Nat.zero_le _) (fuel_ok (by omega)) ⟨rfl, t6, t7, t8, t9, fun p hp => absurd hp (Nat.not_lt_zero _), fun i h _ _ _ => tf i (by omega), fun k _ _ => by rw [tf 32 (by decide)]⟩
  rintro rec k a s hk ⟨rfl, s6, s7, s8, s9, sr, sf, s32⟩ IH
  rw [s6]
  refine wo_ite (fun hlt => ?_) (fun hge => ?_)
  · have hkn : k < n := (nI_ltI (by omega) (by omega)).mp hlt
    have lawS : ∀ s : St, (∀ i, i < 6 ∨ 9 < i → i ≠ 32 → i ≠ 34 → i ≠ 35 → s i = σ i) → (∀ k, k ≠ 5 → k ≠ 6 → s 32 k = σ 32 k) → RVd (vd s v) m n ∧ LR (s 32 3) (s 32 4) (s 33) (m 1) (m 2) (fun k => m (352 + k)) := fun s f1 f2 => ⟨hV.mv (fun j hj => f1 _ (by omega) (by omega) (by omega) (by omega)), by rw [f2 3 (by decide) (by decide), f2 4 (by decide) (by decide), f1 33 (by omega) (by decide) (by decide) (by decide)]; exact hL⟩
    obtain ⟨hVs, hLs⟩ := lawS s sf s32
    have s10 : q11_isIn (s v 10) (nI k) = fB m k := hVs.hb hkn
    rw [s10]
    have hvt : fVt ab m k = (!fB m k && !ab m k) := rfl
    have hskip : ∀ s' : St, fVt ab m k = false → (∀ i, i ≠ 32 → i ≠ 34 → i ≠ 35 → s' i = s i) → (∀ j, j ≠ 5 → j ≠ 6 → s' 32 j = s 32 j) → nI (k + 1) = nI (k + 1) ∧ s' 6 6 = nI n ∧ s' 6 7 = nI (bs (fRn m) n) ∧ s' 6 8 = bcount (nI (bs (fRn m) n)) ∧ s' 6 9 = nI (bs (fVt ab m) (k + 1)) ∧ (∀ p, p < k + 1 → fVt ab m p = true → ∀ x, x < n → fRn m x = true → s' 7 (p * 6 + ps (fRn m) (fav m p) n x) = nI x ∧ s' 8 (p * 6 + x) = nI (ps (fRn m) (fav m p) n x)) ∧ (∀ i, i < 6 ∨ 9 < i → i ≠ 32 → i ≠ 34 → i ≠ 35 → s' i = σ i) ∧ ∀ k, k ≠ 5 → k ≠ 6 → s' 32 k = σ 32 k := fun s' hf f1 f2 => by
      have e6 := f1 6 (by decide) (by decide) (by decide)
      refine ⟨rfl, by rw [e6]; exact s6, by rw [e6]; exact s7, by rw [e6]; exact s8, ?_, fun p hp hpv x hx hxr => ?_, fun i h1 h2 h3 h4 => by rw [f1 i h2 h3 h4]; exact sf i h1 h2 h3 h4, fun j h1 h2 => by rw [f2 j h1 h2]; exact s32 j h1 h2⟩
      · rw [e6, s9]
        show _ = nI (bs _ k + _)
        rw [hf]
        rfl
      · have hpk : p ≠ k := fun e => by rw [e, hf] at hpv; cases hpv
        rw [f1 7 (by decide) (by decide) (by decide), f1 8 (by decide) (by decide) (by decide)]
        exact sr p (by omega) hpv x hx hxr
    cases hb : fB m k with
    | true =>
      rw [hb] at hvt
      simp only [if_true, Option.bind_some, Bool.false_eq_true, if_false]
      rw [nI_1]
      exact IH _ _ hkn (hskip s hvt (fun _ _ _ _ => rfl) (fun _ _ _ => rfl))
    | false =>
      rw [hb] at hvt
      simp only [Bool.false_eq_true, if_false]
      obtain ⟨s', es, f1, f2⟩ := L.2.2.1 hv hVs hW hLs hkn
      rw [es]
      simp only [Option.bind_some]
      cases ha : ab m k with
      | true =>
        rw [ha] at hvt
        simp only [if_true, Option.bind_some, Bool.false_eq_true, if_false]
        rw [nI_1]
        exact IH _ _ hkn (hskip s' hvt f1 f2)
      | false =>
        rw [ha] at hvt
        have hvt : fVt ab m k = true := hvt
        simp only [Bool.false_eq_true, if_false, Option.bind_some, if_true]
        have e6 := f1 6 (by decide) (by decide) (by decide)
        have hbl := bs_lt (fVt ab m) k
        have hbl2 := bs_le (n := k) (by omega) (fVt ab m)
        have e69 : s' 6 9 ||| shl 1 (nI k) = nI (bs (fVt ab m) (k + 1)) := by
          rw [e6, s9, or_bit k (by omega) _ hbl2 hbl]
          show _ = nI (bs _ k + _)
          rw [hvt, if_pos rfl]
        rw [e69]
        refine wo_bind ?_
        refine wo_bind ?_
        refine lpW2 n (fun r q w => q = nI r ∧ w 6 6 = nI n ∧ w 6 7 = nI (bs (fRn m) n) ∧ w 6 8 = bcount (nI (bs (fRn m) n)) ∧ w 6 9 = nI (bs (fVt ab m) (k + 1)) ∧ w 7 = s 7 ∧ w 8 = s 8 ∧ (∀ x, x < r → fRn m x = true → w 9 x = fav m k x) ∧ (∀ i, i < 6 ∨ 9 < i → i ≠ 32 → i ≠ 34 → i ≠ 35 → w i = σ i) ∧ ∀ k, k ≠ 5 → k ≠ 6 → w 32 k = σ 32 k) ?_ fuelN 0 0 _ (Nat.zero_le _) (fuel_ok (by omega)) ⟨rfl, by rw [up_off (by decide), e6]; exact s6, by rw [up_off (by decide), e6]; exact s7, by rw [up_off (by decide), e6]; exact s8, up_at, by rw [up_pl (by decide)]; exact f1 7 (by decide) (by decide) (by decide), by rw [up_pl (by decide)]; exact f1 8 (by decide) (by decide) (by decide), fun x hx => absurd hx (Nat.not_lt_zero _), fun i h1 h2 h3 h4 => by rw [up_pl (by omega), f1 i h2 h3 h4]; exact sf i h1 h2 h3 h4, fun j h1 h2 => by rw [up_pl (by decide), f2 j h1 h2]; exact s32 j h1 h2⟩
        rintro rec2 r q w hr ⟨rfl, w6, w7, w8, w9, wr, wp, wf, wo, w32⟩ IH2
        rw [w6]
        refine wo_ite (fun hlt2 => ?_) (fun hge2 => ?_)
        · have hrn : r < n := (nI_ltI (by omega) (by omega)).mp hlt2
          rw [w7, isIn_bs hn hrn]
          obtain ⟨hVw, hLw⟩ := lawS w wo w32
          by_cases hRr : fRn m r = true
          · rw [if_pos hRr]
            obtain ⟨w', ew, g1, g2⟩ := L.2.1 hv hVw hW hLw hkn hrn
            rw [ew]
            simp only [Option.bind_some]
            refine wo_st (sa_nI (k := r) rfl (by omega) (by decide)) ?_
            rw [nI_1]
            have e6 := g1 6 (by decide) (by decide) (by decide)
            refine IH2 _ _ hrn ⟨rfl, by rw [up_pl (by decide), e6]; exact w6, by rw [up_pl (by decide), e6]; exact w7, by rw [up_pl (by decide), e6]; exact w8, by rw [up_pl (by decide), e6]; exact w9, by rw [up_pl (by decide), g1 7 (by decide) (by decide) (by decide)]; exact wr, by rw [up_pl (by decide), g1 8 (by decide) (by decide) (by decide)]; exact wp, fun x hx hxr => ?_, fun i h1 h2 h3 h4 => by rw [up_pl (by omega), g1 i h2 h3 h4]; exact wo i h1 h2 h3 h4, fun j h1 h2 => by rw [up_pl (by decide), g2 j h1 h2]; exact w32 j h1 h2⟩
            by_cases hxe : x = r
            · subst hxe; rw [up_at]
            · rw [up_off hxe, g1 9 (by decide) (by decide) (by decide)]; exact wf x (by omega) hxr
          · rw [if_neg hRr]
            simp only [Option.bind_some]
            refine wo_st (sa_nI (k := r) rfl (by omega) (by decide)) ?_
            rw [nI_1]
            refine IH2 _ _ hrn ⟨rfl, by rw [up_pl (by decide)]; exact w6, by rw [up_pl (by decide)]; exact w7, by rw [up_pl (by decide)]; exact w8, by rw [up_pl (by decide)]; exact w9, by rw [up_pl (by decide)]; exact wr, by rw [up_pl (by decide)]; exact wp, fun x hx hxr => ?_, fun i h1 h2 h3 h4 => by rw [up_pl (by omega)]; exact wo i h1 h2 h3 h4, fun j h1 h2 => by rw [up_pl (by decide)]; exact w32 j h1 h2⟩
            by_cases hxe : x = r
            · subst hxe; exact absurd hxr hRr
            · rw [up_off hxe]; exact wf x (by omega) hxr
        · have hre : r = n := by
            have : ¬ r < n := fun q => hge2 (nI_lt q (by omega))
            omega
          subst hre
          refine wo_some ?_
          obtain ⟨z, ez, z1, z2, z3⟩ := sort_ok (R := fRn m) (f := fav m k) (v := k) hn (by omega) w6 w7 wf
          refine wo_st ez ?_
          refine wo_some ?_
          rw [nI_1]
          have e6 := z3 6 (by decide) (by decide)
          refine IH _ _ hkn ⟨rfl, by rw [e6]; exact w6, by rw [e6]; exact w7, by rw [e6]; exact w8, by rw [e6]; exact w9, fun p hp hpv x hx hxr => ?_, fun i h1 h2 h3 h4 => by rw [z3 i (by omega) (by omega)]; exact wo i h1 h2 h3 h4, fun j h1 h2 => by rw [z3 32 (by decide) (by decide)]; exact w32 j h1 h2⟩
          by_cases hpk : p = k
          · subst hpk
            exact z1 x hx hxr
          · have hps := ps_ct (f := fav m p) hx hxr
            have hcc := cn_top (P := fRn m) r
            obtain ⟨y1, -⟩ := z2 p (ps (fRn m) (fav m p) r x) (by omega) hpk
            obtain ⟨-, y2⟩ := z2 p x (by omega) hpk
            rw [y1, y2, wr, wp]
            exact sr p (by omega) hpv x hx hxr
  · have : k = n := by
      have : ¬ k < n := fun q => hge (nI_lt q (by omega))
      omega
    subst this
    exact wo_some (wo_some ⟨s6, s7, s8, s9, sr, sf, s32⟩)
/-- the poll of the reference -/
def HeldM (fav : FavT) (ab : AbsT) (ν u : St) (m : Nat → Int32) (n : Nat) : Prop := u 0 20 = nI (bs (fVt ab m) n) ∧ u 0 21 = nI (bs (fRn m) n) ∧ (∀ p o, p < n → o < n → u 7 (7 * p + o) = fav m p o) ∧ (∀ i, i ≠ 0 → i ≠ 6 → i ≠ 7 → u i = ν i) ∧ (∀ k, k < 9 ∨ 21 < k ∨ k = 12 → u 0 k = ν 0 k) ∧ (RFl ν → RFl u)
theorem ix_7 (p o : Nat) : (7 : Int32) * nI p + nI o = nI (7 * p + o) := by
  show nI 7 * nI p + nI o = _
  rw [pk_mul, nI_add]
theorem looks_ok {LR : LRT} {fav : FavT} {ab : AbsT} (L : LawF LR fav ab) {ν : St} {m : Nat → Int32} {n : Nat} (h1 : ν 1 = m) (h3 : m 3 = nI n) (hn : n ≤ 6) (hW : WFm m n) (hL : ∃ a b c, LR a b c (m 1) (m 2) (fun k => m (352 + k))) : Wo (q12_looks ν) (fun u => HeldM fav ab ν u m n) := by
  unfold q12_looks
  dsimp only [lt]
  have e1 : up ν 0 20 0 1 = m := (up_pl (by decide)).trans h1
  have t3 := those3 (μ := up ν 0 20 0) (n := n) (by rw [e1]; exact h3) hn (by rw [e1]; exact hW)
  have t4 := those4 (μ := up ν 0 20 0) (n := n) (by rw [e1]; exact h3) hn (by rw [e1]; exact hW)
  rw [e1] at t3 t4
  refine wo_st t3 ?_
  refine wo_st t4 ?_
  rw [run_bs hn]
  have a20 : up (up ν 0 20 0) 0 21 (nI (bs (fRn m) n)) 0 20 = 0 := by rw [up_off (by decide), up_at]
  have a21 : up (up ν 0 20 0) 0 21 (nI (bs (fRn m) n)) 0 21 = nI (bs (fRn m) n) := up_at
  have af : ∀ i, i ≠ 0 → up (up ν 0 20 0) 0 21 (nI (bs (fRn m) n)) i = ν i := fun i hi => by rw [up_pl hi, up_pl hi]
  have a0 : (∀ k, k < 9 ∨ 21 < k ∨ k = 12 → up (up ν 0 20 0) 0 21 (nI (bs (fRn m) n)) 0 k = ν 0 k) ∧ (RFl ν → RFl (up (up ν 0 20 0) 0 21 (nI (bs (fRn m) n)))) := ⟨fun k hk => by rw [up_off (by omega), up_off (by omega)], fun h => h.eq (by rw [up_off (by decide), up_off (by decide)]) (by rw [up_off (by decide), up_off (by decide)]) (by rw [up_off (by decide), up_off (by decide)])⟩
  have hgen : ∀ τ : St, τ 0 20 = 0 → τ 0 21 = nI (bs (fRn m) n) → (∀ i, i ≠ 0 → τ i = ν i) → ((∀ k, k < 9 ∨ 21 < k ∨ k = 12 → τ 0 k = ν 0 k) ∧ (RFl ν → RFl τ)) → Wo (loop2 (fun (rec12_ : Int32 → St → Option (Int32 × St)) (p15_ : Int32) (σ16_ : St) =>
      Option.bind (ag σ16_ 1 752 3) fun x21_ =>
      if p15_ < x21_ then
      Option.bind (loop2 (fun (rec28_ : Int32 → St → Option (Int32 × St)) (o31_ : Int32) (σ32_ : St) =>
      Option.bind (ag σ32_ 1 752 3) fun x37_ =>
      if o31_ < x37_ then
      Option.bind (q12_favourOf σ32_ p15_ o31_) fun x41_ =>
      Option.bind (sa x41_.2 7 49 ((7 * p15_) + o31_) x41_.1) fun σ43_ =>
      Option.bind (Option.bind (if o31_ = p15_ then (if ¬ (σ43_ 0 18) = 0 then (some false) else (Option.bind (q12_of σ43_ p15_ 4) fun x54_ =>
      if x54_ = 0 then (some true) else (some false))) else (some false)) fun t50_ =>
      if t50_ = true then some (up σ43_ 0 20 ((σ43_ 0 20) ||| (shl 1 p15_))) else (some (σ43_))) fun y45_ =>
      rec28_ (o31_ + 1) y45_
      else (some (o31_, σ32_))) fuelN (0 : Int32) σ16_) fun y25_ =>
      rec12_ (p15_ + 1) y25_.2
      else (some (p15_, σ16_))) fuelN (0 : Int32) τ) (fun r => HeldM fav ab ν r.2 m n) := by
    intro τ b20 b21 bf b0
    refine lpW2 n (fun k a u => a = nI k ∧ u 0 20 = nI (bs (fVt ab m) k) ∧ u 0 21 = nI (bs (fRn m) n) ∧ (∀ p o, p < k → o < n → u 7 (7 * p + o) = fav m p o) ∧ (∀ i, i ≠ 0 → i ≠ 6 → i ≠ 7 → u i = ν i) ∧ (∀ k, k < 9 ∨ 21 < k ∨ k = 12 → u 0 k = ν 0 k) ∧ (RFl ν → RFl u)) ?_ fuelN 0 0 τ (Nat.zero_le _) (fuel_ok (by omega)) ⟨rfl, b20, b21, fun p o hp => absurd hp (Nat.not_lt_zero _), fun i h _ _ => bf i h, b0⟩
    rintro rec k a u hk ⟨rfl, u20, u21, u7, uf, u0⟩ IH
    have eu1 : u 1 = m := (uf 1 (by decide) (by decide) (by decide)).trans h1
    refine wo_st ag3 ?_
    rw [eu1, h3]
    refine wo_ite (fun hlt => ?_) (fun hge => ?_)
    · have hkn : k < n := (nI_ltI (by omega) (by omega)).mp hlt
      have hvt : fVt ab m k = (!fB m k && !ab m k) := rfl
      refine wo_bind ?_
      rw [nI_1]
      refine lpW2 n (fun j a w => a = nI j ∧ w 0 20 = nI (bs (fVt ab m) (if k < j then k + 1 else k)) ∧ w 0 21 = nI (bs (fRn m) n) ∧ (∀ p o, p < k → o < n → w 7 (7 * p + o) = fav m p o) ∧ (∀ o, o < j → w 7 (7 * k + o) = fav m k o) ∧ (∀ i, i ≠ 0 → i ≠ 6 → i ≠ 7 → w i = ν i) ∧ (∀ k, k < 9 ∨ 21 < k ∨ k = 12 → w 0 k = ν 0 k) ∧ (RFl ν → RFl w)) ?_ fuelN 0 0 u (Nat.zero_le _) (fuel_ok (by omega)) ⟨rfl, by rw [if_neg (by omega)]; exact u20, u21, u7, fun o ho => absurd ho (Nat.not_lt_zero _), uf, u0⟩
      rintro rec2 j a w hj ⟨rfl, w20, w21, w7, w7', wf, w0⟩ IH2
      have ew1 : w 1 = m := (wf 1 (by decide) (by decide) (by decide)).trans h1
      refine wo_st ag3 ?_
      rw [ew1, h3]
      refine wo_ite (fun hlt2 => ?_) (fun hge2 => ?_)
      · have hjn : j < n := (nI_ltI (by omega) (by omega)).mp hlt2
        obtain ⟨w', ew, g1, g2, g3, g4⟩ := L.1 (ν := w) (p := k) (o := j) (by rw [ew1]; exact hL) (by rw [ew1]; exact h3) hn (by rw [ew1]; exact hW) hkn hjn
        rw [ew1] at ew g3
        refine wo_st ew ?_
        dsimp only
        refine wo_st (sa_nI (ix_7 k j) (by omega) (by decide)) ?_
        have z0 : ∀ x, up w' 7 (7 * k + j) x 0 = w' 0 := fun x => up_pl (by decide)
        have z1 : up w' 7 (7 * k + j) (fav m k j) 1 = m := by rw [up_pl (by decide), g1 1 (by decide) (by decide)]; exact ew1
        have z20 : w' 0 20 = w 0 20 := g2 20 (by omega)
        have hrest : ∀ y : Int32, y = nI (bs (fVt ab m) (if k < j + 1 then k + 1 else k)) → ∀ s' : St, (s' 0 20 = y) → (∀ q, q ≠ 20 → s' 0 q = w' 0 q) → (∀ i, i ≠ 0 → s' i = up w' 7 (7 * k + j) (fav m k j) i) → nI (j + 1) = nI (j + 1) ∧ s' 0 20 = nI (bs (fVt ab m) (if k < j + 1 then k + 1 else k)) ∧ s' 0 21 = nI (bs (fRn m) n) ∧ (∀ p o, p < k → o < n → s' 7 (7 * p + o) = fav m p o) ∧ (∀ o, o < j + 1 → s' 7 (7 * k + o) = fav m k o) ∧ (∀ i, i ≠ 0 → i ≠ 6 → i ≠ 7 → s' i = ν i) ∧ (∀ k, k < 9 ∨ 21 < k ∨ k = 12 → s' 0 k = ν 0 k) ∧ (RFl ν → RFl s') := by
          intro y hy s' q1 q2 q3
          refine ⟨rfl, q1.trans hy, by rw [q2 21 (by decide), g2 21 (by omega)]; exact w21, fun p o hp ho => ?_, fun o ho => ?_, fun i i0 i6 i7 => by rw [q3 i i0, up_pl i7, g1 i i0 i6]; exact wf i i0 i6 i7, fun q hq => by rw [q2 q (by omega), g2 q (by omega)]; exact w0.1 q hq, fun h => (g4 (w0.2 h)).eq (q2 15 (by decide)) (q2 16 (by decide)) (q2 18 (by decide))⟩
          · rw [q3 7 (by decide), up_off (by omega), g1 7 (by decide) (by decide)]; exact w7 p o hp ho
          · rw [q3 7 (by decide)]
            by_cases hoj : o = j
            · subst hoj; rw [up_at]
            · rw [up_off (by omega), g1 7 (by decide) (by decide)]; exact w7' o (by omega)
        by_cases hjk : j = k
        · subst hjk
          rw [if_neg (by omega)] at w20
          rw [if_pos rfl, z0, g3 rfl]
          cases ha : ab m j with
          | true =>
            rw [ha] at hvt
            have hvt : fVt ab m j = false := by rw [hvt, Bool.not_true, Bool.and_false]
            rw [if_pos (show ¬ b2i true = 0 by decide)]
            simp only [Option.bind_some, Bool.false_eq_true, if_false]
            rw [nI_1]
            refine IH2 _ _ hjn (hrest _ ?_ _ rfl (fun _ _ => by rw [z0]) (fun _ _ => rfl))
            rw [z0, z20, w20, if_pos (by omega)]
            show _ = nI (bs _ j + _)
            rw [hvt]
            rfl
          | false =>
            rw [ha] at hvt
            rw [if_neg (show ¬ ¬ b2i false = 0 by decide), of4 (by omega), z1]
            simp only [Option.bind_some]
            rcases wB hW hjn with ⟨b1, b2⟩ | ⟨b1, b2⟩
            · have hvt : fVt ab m j = true := by rw [hvt, b2]; rfl
              rw [if_pos b1]
              simp only [Option.bind_some, if_true]
              rw [nI_1]
              have hbl := bs_lt (fVt ab m) j
              have hbl2 := bs_le (n := j) (by omega) (fVt ab m)
              refine IH2 _ _ hjn (hrest (up w' 7 (7 * j + j) (fav m j j) 0 20 ||| shl 1 (nI j)) ?_ _ up_at (fun q hq => by rw [up_off hq, z0]) (fun i hi => up_pl hi))
              rw [z0, z20, w20, or_bit j (by omega) _ hbl2 hbl, if_pos (by omega)]
              show _ = nI (bs _ j + _)
              rw [hvt, if_pos rfl]
            · have hvt : fVt ab m j = false := by rw [hvt, b2]; rfl
              rw [if_neg (show ¬ m (14 + 7 * j + 4) = 0 by rw [b1]; decide)]
              simp only [Option.bind_some, Bool.false_eq_true, if_false]
              rw [nI_1]
              refine IH2 _ _ hjn (hrest _ ?_ _ rfl (fun _ _ => by rw [z0]) (fun _ _ => rfl))
              rw [z0, z20, w20, if_pos (by omega)]
              show _ = nI (bs _ j + _)
              rw [hvt]
              rfl
        · rw [if_neg (nIe (by omega) (by omega) hjk)]
          simp only [Option.bind_some, Bool.false_eq_true, if_false]
          rw [nI_1]
          refine IH2 _ _ hjn (hrest _ ?_ _ rfl (fun _ _ => by rw [z0]) (fun _ _ => rfl))
          rw [z0, z20, w20]
          by_cases hc : k < j
          · rw [if_pos hc, if_pos (by omega)]
          · rw [if_neg hc, if_neg (by omega)]
      · have hje : j = n := by
          have : ¬ j < n := fun q => hge2 (nI_lt q (by omega))
          omega
        subst hje
        refine wo_some ?_
        dsimp only
        rw [if_pos hkn] at w20
        refine IH _ _ hkn ⟨rfl, w20, w21, fun p o hp ho => ?_, wf, w0⟩
        by_cases hpk : p = k
        · subst hpk; exact w7' o ho
        · exact w7 p o (by omega) ho
    · have : k = n := by
        have : ¬ k < n := fun q => hge (nI_lt q (by omega))
        omega
      subst this
      exact wo_some ⟨u20, u21, u7, uf, u0⟩
  obtain ⟨r, er, hr⟩ := hgen _ a20 a21 af a0
  exact wo_st er (wo_some hr)

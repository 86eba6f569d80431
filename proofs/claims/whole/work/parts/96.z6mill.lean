/-! LAYER 2: MILL, TWO RUNS WITH FLOUR ENOUGH -/
def RQ (n : Nat) (m m' : Nat → Int32) : Prop := (∀ p, p < n → m' (14 + 7 * p) = m (14 + 7 * p) ∧ m' (14 + 7 * p + 1) = m (14 + 7 * p + 1) ∧ m' (14 + 7 * p + 2) = m (14 + 7 * p + 2) ∧ m' (14 + 7 * p + 5) = m (14 + 7 * p + 5) ∧ m' (14 + 7 * p + 6) = m (14 + 7 * p + 6) ∧ fS m' p = fS m p ∧ fB m' p = fB m p) ∧ (∀ p o, p < n → o < n → p ≠ o → m' (63 + 7 * p + o) = m (63 + 7 * p + o)) ∧ m' 6 = m 6
def TXt (m m' : Nat → Int32) : Prop := m' 1 = m 1 ∧ m' 2 = m 2 ∧ ∀ k, m' (352 + k) = m (352 + k)
def LawI (fav : FavT) (ab : AbsT) : Prop := ∀ {n : Nat} {m m' : Nat → Int32}, RQ n m m' → TXt m m' → (∀ p o, p < n → o < n → fav m' p o = fav m p o) ∧ ∀ p, p < n → ab m' p = ab m p
theorem law_I : LawI favX abX := fun {n m m'} h t => by
  have hk : ∀ p o, p < n → o < n → lk m' p o = lk m p o := fun p o hp ho => by
    unfold lk
    by_cases e : p = o
    · rw [if_pos e, if_pos e]
    · rw [if_neg e, if_neg e]; exact h.2.1 p o hp ho e
  have hs : ∀ p o, p < n → o < n → sm2 m' p o = sm2 m p o := fun p o hp ho => by
    unfold sm2
    rw [(h.1 p hp).2.1, (h.1 o ho).2.1]
  have hF : ∀ p o, p < n → o < n → FFx m' p o = FFx m p o := fun p o hp ho => by
    unfold FFx
    rw [hk p o hp ho, hs p o hp ho, (h.1 o ho).1, (h.1 o ho).2.2.2.1, (h.1 o ho).2.2.2.2.1, (h.1 p hp).2.2.1, (h.1 p hp).2.2.2.2.2.1]
  have hl : lnsOf m' = lnsOf m := by
    unfold lnsOf
    have : (fun k => m' (352 + k)) = fun k => m (352 + k) := funext t.2.2
    rw [this, t.2.1]
  refine ⟨fun p o hp ho => ?_, fun p hp => ?_⟩
  · unfold favX
    rw [t.1, hk p o hp ho, hs p o hp ho, hF p o hp ho, hl]
  · unfold abX
    rw [t.1, hF p p hp hp, hl]
theorem RQ.rn {n : Nat} {m m' : Nat → Int32} (h : RQ n m m') {p : Nat} (hp : p < n) : fRn m' p = fRn m p := by
  unfold fRn
  rw [(h.1 p hp).2.2.2.2.2.1, (h.1 p hp).2.2.2.2.2.2]
theorem ps_cg {R R' : Nat → Bool} {f f' : Nat → Int32} {n x : Nat} (hx : x < n) (hR : ∀ p, p < n → R' p = R p) (hf : ∀ p, p < n → f' p = f p) : ps R' f' n x = ps R f n x := by
  unfold ps
  refine cn_congr (fun k hk => ?_)
  rw [hR k hk]
  unfold ahB
  rw [hf k hk, hf x hx]
theorem HeldC.cg {fav : FavT} {ab : AbsT} (LI : LawI fav ab) {σ s : St} {m m' : Nat → Int32} {n : Nat} (hq : RQ n m m') (ht : TXt m m') (h : HeldC fav ab σ s m' n) : HeldC fav ab σ s m n := by
  obtain ⟨hf, ha⟩ := LI hq ht
  have hr : bs (fRn m') n = bs (fRn m) n := bs_congr (fun p hp => hq.rn hp)
  have hv : ∀ p, p < n → fVt ab m' p = fVt ab m p := fun p hp => by
    unfold fVt
    rw [(hq.1 p hp).2.2.2.2.2.2, ha p hp]
  obtain ⟨h1, h2, h3, h4, h5, h6⟩ := h
  refine ⟨h1, by rw [h2, hr], by rw [h3, hr], by rw [h4, bs_congr hv], fun p hp hpv x hx hxr => ?_, h6⟩
  have := h5 p hp (by rw [hv p hp]; exact hpv) x hx (by rw [hq.rn hx]; exact hxr)
  rw [ps_cg (R := fRn m) (f := fav m p) hx (fun q hq' => hq.rn hq') (fun q hq' => hf p q hp hq')] at this
  exact this
def TW (n : Nat) (σ ρ : St) : Prop := (∀ q, q < n → ρ (54 + 1) q = σ (54 + 1) q ∧ ρ (54 + 2) q = σ (54 + 2) q ∧ ρ (54 + 3) q = σ (54 + 3) q ∧ ρ (54 + 4) q = σ (54 + 4) q ∧ ρ (54 + 5) q = σ (54 + 5) q) ∧ (∀ p o, p < n → o < n → p ≠ o → ρ (54 + 6) (p * 6 + o) = σ (54 + 6) (p * 6 + o)) ∧ ρ 54 9 = σ 54 9 ∧ ρ 54 10 = σ 54 10 ∧ ρ 54 13 = σ 54 13
theorem TW.rq {n : Nat} {σ ρ : St} {m m' : Nat → Int32} (h : TW n σ ρ) (hV : RVd (vd σ 54) m n) (hV' : RVd (vd ρ 54) m' n) : RQ n m m' := by
  obtain ⟨t1, t2, t3, t4, t5⟩ := h
  refine ⟨fun p hp => ?_, fun p o hp ho hne => ?_, ?_⟩
  · obtain ⟨a1, a2, a3, a4, a5⟩ := hV.2.1 p hp
    obtain ⟨b1, b2, b3, b4, b5⟩ := hV'.2.1 p hp
    obtain ⟨c1, c2, c3, c4, c5⟩ := t1 p hp
    refine ⟨b1.symm.trans (c1.trans a1), b2.symm.trans (c2.trans a2), b3.symm.trans (c3.trans a3), b4.symm.trans (c4.trans a4), b5.symm.trans (c5.trans a5), ?_, ?_⟩
    · rw [← hV.hs hp, ← hV'.hs hp, t3]
    · rw [← hV.hb hp, ← hV'.hb hp, t4]
  · exact (hV'.2.2.2.1 p o hp ho hne).symm.trans ((t2 p o hp ho hne).trans (hV.2.2.2.1 p o hp ho hne))
  · exact (hV'.2.2.2.2.2.1.2.2.1).symm.trans (t5.trans hV.2.2.2.2.2.1.2.2.1)
theorem TW.of {n : Nat} {σ ρ : St} {m m' : Nat → Int32} (hV : RVd (vd σ 54) m n) (hV' : RVd (vd ρ 54) m' n) (e : ∀ k, k < 10 ∨ 13 < k → m' k = m k) : TW n σ ρ := by
  have hn := hV.1.1
  refine ⟨fun q hq => ?_, fun p o hp ho hne => ?_, ?_, ?_, ?_⟩
  · obtain ⟨a1, a2, a3, a4, a5⟩ := hV.2.1 q hq
    obtain ⟨b1, b2, b3, b4, b5⟩ := hV'.2.1 q hq
    exact ⟨b1.trans ((e _ (by omega)).trans a1.symm), b2.trans ((e _ (by omega)).trans a2.symm), b3.trans ((e _ (by omega)).trans a3.symm), b4.trans ((e _ (by omega)).trans a4.symm), b5.trans ((e _ (by omega)).trans a5.symm)⟩
  · exact (hV'.2.2.2.1 p o hp ho hne).trans ((e _ (by omega)).trans (hV.2.2.2.1 p o hp ho hne).symm)
  · refine hV'.2.2.1.1.trans (Eq.trans ?_ hV.2.2.1.1.symm)
    congr 1
    exact bs_congr (fun p hp => by unfold fS; rw [e _ (by omega)])
  · refine hV'.2.2.1.2.trans (Eq.trans ?_ hV.2.2.1.2.symm)
    congr 1
    exact bs_congr (fun p hp => by unfold fB; rw [e _ (by omega)])
  · exact (hV'.2.2.2.2.2.1.2.2.1).trans ((e 6 (by omega)).trans hV.2.2.2.2.2.1.2.2.1.symm)
def nOt (S B : Nat → Bool) (q : Nat) : Bool := !(S q || B q)
theorem feedF {n F : Nat} {S B : Nat → Bool} {w : St} (hn : n ≤ 6) (hF : 6 ≤ F) (hF2 : F ≤ 9999) (h8 : w 54 8 = nI n) (h9 : w 54 9 = nI (bs S n)) (h10 : w 54 10 = nI (bs B n)) (h11 : w 54 11 = nI F) : Wo (q0_feedOthers w 54) (fun a => (∀ q, q < n → a (54 + 1) q = if nOt S B q = true then 0 else w (54 + 1) q) ∧ (∃ F', a 54 11 = nI F' ∧ F' + cn (nOt S B) n = F) ∧ (∀ k, k ≠ 11 → a 54 k = w 54 k) ∧ ∀ i, i ≠ 54 → i ≠ 55 → a i = w i) := by
  unfold q0_feedOthers
  dsimp only [lt]
  refine wo_bind (wo_mono (Q := fun y => (∀ q, q < n → y.2 (54 + 1) q = if nOt S B q = true then 0 else w (54 + 1) q) ∧ (∃ F', y.2 54 11 = nI F' ∧ F' + cn (nOt S B) n = F) ∧ (∀ k, k ≠ 11 → y.2 54 k = w 54 k) ∧ ∀ i, i ≠ 54 → i ≠ 55 → y.2 i = w i) ?_ (fun y hy => wo_some hy))
  refine lpW2 n (fun t p a => p = nI t ∧ (∀ q, a (54 + 1) q = if q < t ∧ nOt S B q = true then 0 else w (54 + 1) q) ∧ (∃ F', a 54 11 = nI F' ∧ F' + cn (nOt S B) t = F) ∧ (∀ k, k ≠ 11 → a 54 k = w 54 k) ∧ ∀ i, i ≠ 54 → i ≠ 55 → a i = w i) ?_ fuelN 0 _ _ (Nat.zero_le _) (fuel_ok (by omega)) ⟨rfl, fun q => by rw [if_neg (fun h => absurd h.1 (Nat.not_lt_zero _))], ⟨F, h11, rfl⟩, fun _ _ => rfl, fun _ _ _ => rfl⟩
  rintro rec t p a ht ⟨rfl, a1, ⟨F', a11, aF⟩, ak, af⟩ IH
  rw [ak 8 (by decide), h8]
  refine wo_ite (fun hlt => ?_) (fun hge => ?_)
  · have htn : t < n := (nI_ltI (by omega) (by omega)).mp hlt
    have hct := cn_top (P := nOt S B) t
    rw [ak 9 (by decide), ak 10 (by decide), h9, h10, isIn_or _ _ (by omega), isIn_bs hn htn, isIn_bs hn htn, nI_1]
    cases hc : (S t || B t) with
    | true =>
      rw [if_pos rfl]
      have hno : nOt S B t = false := by unfold nOt; rw [hc]; rfl
      refine IH _ _ htn ⟨rfl, fun q => ?_, ⟨F', a11, ?_⟩, ak, af⟩
      · rw [a1 q]
        by_cases hqt : q = t
        · subst hqt
          rw [if_neg (fun h => absurd h.1 (Nat.lt_irrefl _)), if_neg (fun h => by rw [hno] at h; exact absurd h.2 (by decide))]
        · by_cases hq : q < t ∧ nOt S B q = true
          · rw [if_pos hq, if_pos ⟨by omega, hq.2⟩]
          · rw [if_neg hq, if_neg (fun h => hq ⟨by omega, h.2⟩)]
      · rw [cn_s, hno]; exact aF
    | false =>
      have hno : nOt S B t = true := by unfold nOt; rw [hc]; rfl
      rw [if_neg (by decide), a11, if_pos ((nI_0lt (b := F') (by omega)).mpr (by omega)), sa_nI (k := t) rfl (by omega) (by decide)]
      simp only [Option.bind_some]
      refine IH _ _ htn ⟨rfl, fun q => ?_, ⟨F' - 1, ?_, ?_⟩, fun k hk => ?_, fun i h1 h2 => ?_⟩
      · by_cases hqt : q = t
        · subst hqt
          rw [up_at, if_pos ⟨by omega, hno⟩]
        · rw [up_off hqt, up_pl (by decide), a1 q]
          by_cases hq : q < t ∧ nOt S B q = true
          · rw [if_pos hq, if_pos ⟨by omega, hq.2⟩]
          · rw [if_neg hq, if_neg (fun h => hq ⟨by omega, h.2⟩)]
      · rw [up_pl (by decide), up_at]
        exact pk_sub (b := 1) (by omega)
      · rw [cn_s, hno, if_pos rfl]
        omega
      · rw [up_pl (by decide), up_off hk]; exact ak k hk
      · rw [up_pl h2, up_pl h1]; exact af i h1 h2
  · have : t = n := by
      have : ¬ t < n := fun q => hge (nI_lt q (by omega))
      omega
    subst this
    refine wo_some ?_
    try dsimp only
    refine ⟨fun q hq => ?_, ⟨F', a11, aF⟩, ak, af⟩
    rw [a1 q]
    by_cases h : nOt S B q = true
    · rw [if_pos ⟨hq, h⟩, if_pos h]
    · rw [if_neg (fun x => h x.2), if_neg h]
theorem seatF {n : Nat} {B : Nat → Bool} {w : St} (hn : n ≤ 6) (h8 : w 54 8 = nI n) (h10 : w 54 10 = nI (bs B n)) (hl : ∃ L f, L ≤ 60 ∧ f < 60 ∧ w (54 + 8) 1 = nI L ∧ w (54 + 8) 2 = nI f) : Wo (q0_seatStarved w 54) (fun a => a 54 10 = nI (bs (fun p => B p || decide (w (54 + 1) p = 9)) n) ∧ (∀ k, k ≠ 10 → a 54 k = w 54 k) ∧ ∀ i, i ≠ 54 → i ≠ 62 → i ≠ 63 → a i = w i) := by
  unfold q0_seatStarved
  dsimp only [lt]
  refine wo_bind (wo_mono (Q := fun y => y.2 54 10 = nI (bs (fun p => B p || decide (w (54 + 1) p = 9)) n) ∧ (∀ k, k ≠ 10 → y.2 54 k = w 54 k) ∧ ∀ i, i ≠ 54 → i ≠ 62 → i ≠ 63 → y.2 i = w i) ?_ (fun y hy => wo_some hy))
  refine lpW2 n (fun t p a => p = nI t ∧ a 54 10 = nI (bs (fun q => B q || (decide (q < t) && decide (w (54 + 1) q = 9))) n) ∧ (∀ k, k ≠ 10 → a 54 k = w 54 k) ∧ (∀ i, i ≠ 54 → i ≠ 62 → i ≠ 63 → a i = w i) ∧ ∃ L f, L ≤ 60 ∧ f < 60 ∧ a (54 + 8) 1 = nI L ∧ a (54 + 8) 2 = nI f) ?_ fuelN 0 _ _ (Nat.zero_le _) (fuel_ok (by omega)) ⟨rfl, ?_, fun _ _ => rfl, fun _ _ _ _ => rfl, hl⟩
  · rintro rec t p a ht ⟨rfl, a10, ak, af, Lg, g, hLg, hg, l1, l2⟩ IH
    rw [ak 8 (by decide), h8]
    refine wo_ite (fun hlt => ?_) (fun hge => ?_)
    · have htn : t < n := (nI_ltI (by omega) (by omega)).mp hlt
      rw [a10, isIn_bs hn htn, ag_nI (σ := a) (i := 54 + 1) (n := 6) (j := nI t) (k := t) rfl (by omega) (by decide), af (54 + 1) (by decide) (by decide) (by decide), nI_1]
      simp only [Option.bind_some]
      have stay : (B t = true ∨ ¬ w (54 + 1) t = 9) → a 54 10 = nI (bs (fun q => B q || (decide (q < t + 1) && decide (w (54 + 1) q = 9))) n) := fun hs => by
        rw [a10]
        congr 1
        refine bs_congr (fun q _ => ?_)
        by_cases hqt : q = t
        · subst hqt
          rcases hs with hs | hs
          · rw [hs, Bool.true_or, Bool.true_or]
          · rw [decide_eq_false hs, Bool.and_false, Bool.and_false]
        · have : decide (q < t) = decide (q < t + 1) := decide_eq_decide.mpr (by omega)
          rw [this]
      have hbt : (B t || (decide (t < t) && decide (w (54 + 1) t = 9))) = B t := by rw [decide_eq_false (Nat.lt_irrefl t), Bool.false_and, Bool.or_false]
      rw [hbt]
      cases hb : B t with
      | true =>
        simp only [if_true, Option.bind_some, Bool.false_eq_true, if_false]
        exact IH _ _ htn ⟨rfl, stay (Or.inl hb), ak, af, Lg, g, hLg, hg, l1, l2⟩
      | false =>
        simp only [Bool.false_eq_true, if_false]
        by_cases h9 : w (54 + 1) t = 9
        · rw [if_pos h9]
          simp only [Option.bind_some, if_true]
          obtain ⟨a', ea, -, c2, c3, c4⟩ := logC (w := up a 54 10 (nI (bs (fun q => B q || (decide (q < t) && decide (w (54 + 1) q = 9))) n) ||| shl 1 (nI t))) (t := 54 + 8) (wk := up a 54 10 (nI (bs (fun q => B q || (decide (q < t) && decide (w (54 + 1) q = 9))) n) ||| shl 1 (nI t)) 54 12) (a := 1) (b := nI t) (c := 0) hg hLg (by rw [up_pl (by decide)]; exact l2) (by rw [up_pl (by decide)]; exact l1)
          rw [ea]
          simp only [Option.bind_some]
          refine IH _ _ htn ⟨rfl, ?_, fun k hk => ?_, fun i h1 h2 h3 => ?_, _, _, by omega, Nat.mod_lt _ (by omega), c3, c2⟩
          · rw [c4 54 (by decide) (by decide), up_at, orB hn htn]
            congr 1
            refine bs_congr (fun q _ => ?_)
            by_cases hqt : q = t
            · subst hqt
              rw [decide_eq_true (show q = q from rfl), decide_eq_true (show q < q + 1 by omega), decide_eq_true h9]
              simp
            · have : decide (q < t) = decide (q < t + 1) := decide_eq_decide.mpr (by omega)
              rw [this, decide_eq_false hqt, Bool.or_false]
          · rw [c4 54 (by decide) (by decide), up_off hk]; exact ak k hk
          · rw [c4 i h2 h3, up_pl h1]; exact af i h1 h2 h3
        · rw [if_neg h9]
          simp only [Option.bind_some, Bool.false_eq_true, if_false]
          exact IH _ _ htn ⟨rfl, stay (Or.inr h9), ak, af, Lg, g, hLg, hg, l1, l2⟩
    · have : t = n := by
        have : ¬ t < n := fun q => hge (nI_lt q (by omega))
        omega
      subst this
      refine wo_some ?_
      try dsimp only
      refine ⟨?_, ak, af⟩
      rw [a10]
      congr 1
      exact bs_congr (fun q hq => by rw [decide_eq_true hq, Bool.true_and])
  · rw [h10]
    congr 1
    exact bs_congr (fun q _ => by rw [decide_eq_false (Nat.not_lt_zero _), Bool.false_and, Bool.or_false])
theorem loafF {LR : LRT} {fav : FavT} {ab : AbsT} (L : LawF LR fav ab) (LI : LawI fav ab) {n F G : Nat} {σ μ ρ ν : St} (h : Wk 54 n σ μ) (h' : Wk 54 n ρ ν) (hL : LR (σ 32 3) (σ 32 4) (σ 33) (μ 1 1) (μ 1 2) (fun k => μ 1 (352 + k))) (hL' : LR (ρ 32 3) (ρ 32 4) (ρ 33) (ν 1 1) (ν 1 2) (fun k => ν 1 (352 + k))) (ht : TW n σ ρ) (hx : TXt (μ 1) (ν 1)) (eF : σ 54 11 = nI F) (eG : ρ 54 11 = nI G) (hF9 : F ≤ 9999) (hG9 : G ≤ 9999) (hp : ∀ i, i < n → fRn (μ 1) i = true → 0 < F ∧ 0 < G) : R2 (q0_giveLastLoaf σ 54) (q0_giveLastLoaf ρ 54) (fun a b => TW n a b ∧ a (54 + 7) = σ (54 + 7) ∧ b (54 + 7) = ρ (54 + 7)) := by
  have hn := h.1.1.1
  have rq := ht.rq h.1 h'.1
  obtain ⟨W, hW, eW⟩ := h.2.2.2.2.2.2.1
  have s13 : σ 54 13 = nI W := (h.1.2.2.2.2.2.1.2.2.1).trans eW
  have r13 : ρ 54 13 = nI W := ht.2.2.2.2.trans s13
  unfold q0_giveLastLoaf
  dsimp only [lt]
  refine r2_bind (r2_mono (Q := fun y z => z.1 = y.1 ∧ (∀ i, 54 ≤ i → y.2 i = σ i) ∧ (∀ i, 54 ≤ i → z.2 i = ρ i) ∧ (y.1 = -1 ∨ ∃ i, i < n ∧ y.1 = nI i ∧ ∃ τ, HeldC fav ab τ y.2 (μ 1) n) ∧ (z.1 = -1 ∨ ∃ i, i < n ∧ z.1 = nI i ∧ ∃ τ, HeldC fav ab τ z.2 (ν 1) n)) ?_ ?_)
  · rw [eF, eG]
    obtain ⟨s, es, hC⟩ := hold_ok L (Or.inr rfl) h.1 h.2 hL
    obtain ⟨r, er, hD⟩ := hold_ok L (Or.inr rfl) h'.1 h'.2 hL'
    obtain ⟨u, eu, hM⟩ := looks_ok L (ν := μ) rfl h.1.1.2.2 hn h.2 ⟨_, _, _, hL⟩
    have u1 : u 1 = μ 1 := hM.2.2.2.1 1 (by decide) (by decide) (by decide)
    have hD' := hD.cg LI rq hx
    obtain ⟨x, s', x1, x2, x3, x4⟩ := winnerBy_ok L (w := W) hn h.2 h.1.1.2.2 u1 ⟨_, _, _, hL⟩ hC hM (by omega)
    obtain ⟨y, r', y1, y2, y3, y4⟩ := winnerBy_ok L (w := W) hn h.2 h.1.1.2.2 u1 ⟨_, _, _, hL⟩ hD' hM (by omega)
    have exy : y = x := by rw [x2] at y2; exact (Option.some.inj y2).symm
    subst exy
    have sf : ∀ i, 54 ≤ i → s' i = σ i := fun i hi => by rw [x4 i (by omega)]; exact hC.2.2.2.2.2.1 i (by omega) (by omega) (by omega) (by omega)
    have rf : ∀ i, 54 ≤ i → r' i = ρ i := fun i hi => by rw [y4 i (by omega)]; exact hD.2.2.2.2.2.1 i (by omega) (by omega) (by omega) (by omega)
    have ev : (Option.bind (q5_hold σ 54 32) fun x8_ => Option.bind (q5_winnerBy x8_ (x8_ 54 13)) fun x10_ => some (x10_.1, x10_.2)) = some (y, s') := by
      rw [es]
      simp only [Option.bind_some]
      rw [hC.2.2.2.2.2.1 54 (by omega) (by omega) (by omega) (by omega), s13, x1]
      rfl
    have ew : (Option.bind (q5_hold ρ 54 32) fun x8_ => Option.bind (q5_winnerBy x8_ (x8_ 54 13)) fun x10_ => some (x10_.1, x10_.2)) = some (y, r') := by
      rw [er]
      simp only [Option.bind_some]
      rw [hD.2.2.2.2.2.1 54 (by omega) (by omega) (by omega) (by omega), r13, y1]
      rfl
    rw [ev, ew]
    have lF := nI_0lt (b := F) (by omega)
    have lG := nI_0lt (b := G) (by omega)
    rcases x3 with ⟨hx1, hno⟩ | ⟨i, hi, hRi, rfl⟩
    · subst hx1
      have A : ∃ w, (if 0 < nI F then some ((-1 : Int32), s') else some ((-1 : Int32), σ)) = some ((-1 : Int32), w) ∧ ∀ i, 54 ≤ i → w i = σ i := by
        by_cases q : 0 < nI F
        · rw [if_pos q]; exact ⟨s', rfl, sf⟩
        · rw [if_neg q]; exact ⟨σ, rfl, fun _ _ => rfl⟩
      have B : ∃ w, (if 0 < nI G then some ((-1 : Int32), r') else some ((-1 : Int32), ρ)) = some ((-1 : Int32), w) ∧ ∀ i, 54 ≤ i → w i = ρ i := by
        by_cases q : 0 < nI G
        · rw [if_pos q]; exact ⟨r', rfl, rf⟩
        · rw [if_neg q]; exact ⟨ρ, rfl, fun _ _ => rfl⟩
      obtain ⟨w1, e1, f1⟩ := A
      obtain ⟨w2, e2, f2⟩ := B
      rw [e1, e2]
      exact r2_some ⟨rfl, f1, f2, Or.inl rfl, Or.inl rfl⟩
    · obtain ⟨p1, p2⟩ := hp i hi hRi
      rw [if_pos (lF.mpr p1), if_pos (lG.mpr p2)]
      exact r2_some ⟨rfl, sf, rf, Or.inr ⟨i, hi, rfl, _, hC.re x4⟩, Or.inr ⟨i, hi, rfl, _, hD.re y4⟩⟩
  · rintro ⟨x, s⟩ ⟨x', r⟩ ⟨exx, sf, rf, hx1, hx2⟩
    dsimp only at exx sf rf hx1 hx2 ⊢
    subst exx
    have hVs : RVd (vd s 54) (μ 1) n := h.1.mv (fun j hj => sf _ (by omega))
    have hVr : RVd (vd r 54) (ν 1) n := h'.1.mv (fun j hj => rf _ (by omega))
    refine r2_of (loafC (fav := fav) (ab := ab) (Or.inr rfl) hVs hx1) (loafC (fav := fav) (ab := ab) (Or.inr rfl) hVr hx2) (fun a b ha hb => ?_)
    obtain ⟨c, -, a1, a2, a3, a4, -⟩ := ha
    obtain ⟨d, -, b1, b2, b3, b4, -⟩ := hb
    refine ⟨⟨fun q hq => ⟨?_, ?_, ?_, ?_, ?_⟩, fun p o hp ho hne => ?_, ?_, ?_, ?_⟩, ?_, ?_⟩
    · rw [(b1 q hq).1, (a1 q hq).1]
      unfold lfH
      rw [(rq.1 q hq).1, rq.rn hq]
    · rw [b3 2 (by omega), a3 2 (by omega), sf _ (by omega), rf _ (by omega)]; exact (ht.1 q hq).2.1
    · rw [b3 3 (by omega), a3 3 (by omega), sf _ (by omega), rf _ (by omega)]; exact (ht.1 q hq).2.2.1
    · rw [(b1 q hq).2.1, (a1 q hq).2.1]
      unfold lfD
      rw [(rq.1 q hq).2.2.2.1]
    · rw [(b1 q hq).2.2, (a1 q hq).2.2]
      unfold lfR
      rw [(rq.1 q hq).2.2.2.2.1]
    · rw [b3 6 (by omega), a3 6 (by omega), sf _ (by omega), rf _ (by omega)]; exact ht.2.1 p o hp ho hne
    · rw [b4 9 (by decide), a4 9 (by decide), sf _ (by omega), rf _ (by omega)]; exact ht.2.2.1
    · rw [b4 10 (by decide), a4 10 (by decide), sf _ (by omega), rf _ (by omega)]; exact ht.2.2.2.1
    · rw [b4 13 (by decide), a4 13 (by decide), sf _ (by omega), rf _ (by omega)]; exact ht.2.2.2.2
    · rw [a3 7 (by omega), sf _ (by omega)]
    · rw [b3 7 (by omega), rf _ (by omega)]

/-! LAYER 2: WHOM ONE MUST WIN OVER -/
def VO (fav : FavT) (ab : AbsT) (m : Nat → Int32) (n : Nat) (y : Int32) (v : Nat) (r : Int32) : Prop := (r = -1 ∧ ∀ x, x < n → vtB fav ab m (fRn m) n x y v = false) ∨ ∃ x, x < n ∧ vtB fav ab m (fRn m) n x y v = true ∧ r = nI x ∧ ∀ z, z < n → vtB fav ab m (fRn m) n z y v = true → z = x
theorem VO_eq {fav : FavT} {ab : AbsT} {m : Nat → Int32} {n v : Nat} {y r r' : Int32} (h : VO fav ab m n y v r) (h' : VO fav ab m n y v r') : r = r' := by
  rcases h with ⟨rfl, h⟩ | ⟨x, x1, x2, rfl, x4⟩
  · rcases h' with ⟨rfl, -⟩ | ⟨z, z1, z2, -, -⟩
    · rfl
    · rw [h z z1] at z2; cases z2
  · rcases h' with ⟨-, h⟩ | ⟨z, z1, z2, rfl, -⟩
    · rw [h x x1] at x2; cases x2
    · rw [x4 z z1 z2]
theorem VO_iff {fav : FavT} {ab : AbsT} {m : Nat → Int32} {n v i : Nat} {y r : Int32} (hn : n ≤ 6) (h : VO fav ab m n y v r) (hi : i < n) : r = nI i ↔ vtB fav ab m (fRn m) n i y v = true := by
  rcases h with ⟨rfl, h⟩ | ⟨x, x1, x2, rfl, x4⟩
  · rw [h i hi]
    exact ⟨fun e => absurd e.symm (nI_m1 (by omega)), fun e => by cases e⟩
  · constructor
    · intro e
      have : x = i := (nI_eq (by omega) (by omega)).mp e
      rw [← this]; exact x2
    · intro e
      rw [x4 i hi e]
theorem voteOf_ok {LR : LRT} {fav : FavT} {ab : AbsT} (L : LawF LR fav ab) {ν u : St} {m : Nat → Int32} {n v : Nat} (hn : n ≤ 6) (hW : WFm m n) (h3 : m 3 = nI n) (hu : u 1 = m) (hL : ∃ a b c, LR a b c (m 1) (m 2) (fun k => m (352 + k))) (hM : HeldM fav ab ν u m n) (hv : v < n) : ∃ r, q12_voteOf u (nI v) = some r ∧ VO fav ab m n 0 v r := by
  unfold q12_voteOf
  rw [hM.1, hM.2.1, isOf_isIn, isIn_bs hn hv]
  obtain ⟨r, er, hr⟩ := inRank_ok L (R := fRn m) 0 hn hW h3 hu hL hM hv
  by_cases hvt : fVt ab m v = true
  · rw [if_pos hvt, er]
    refine ⟨r, rfl, ?_⟩
    rcases hr with ⟨rfl, h⟩ | ⟨x, x1, x2, x3, rfl⟩
    · refine Or.inl ⟨rfl, fun x hx => ?_⟩
      cases hb : vtB fav ab m (fRn m) n x 0 v with
      | false => rfl
      | true =>
        unfold vtB at hb
        rw [Bool.and_eq_true, Bool.and_eq_true, decide_eq_true_eq] at hb
        exact absurd hb.2.2 (h x hx hb.2.1)
    · refine Or.inr ⟨x, x1, by unfold vtB; rw [hvt, x2, decide_eq_true x3]; rfl, rfl, fun z hz hb => ?_⟩
      unfold vtB at hb
      rw [Bool.and_eq_true, Bool.and_eq_true, decide_eq_true_eq] at hb
      have p1 := ps_ct (f := fav m v) hz hb.2.1
      have p2 := ps_ct (f := fav m v) x1 x2
      have hct := cn_top (P := fRn m) n
      exact ps_inj hz hb.2.1 x1 x2 ((nI_eq (by omega) (by omega)).mp (hb.2.2.trans x3.symm))
  · rw [if_neg hvt]
    refine ⟨-1, rfl, Or.inl ⟨rfl, fun x hx => ?_⟩⟩
    unfold vtB
    rw [Bool.not_eq_true _ |>.mp hvt]
    rfl
theorem votesOf_ok {fav : FavT} {ab : AbsT} {σ s : St} {m : Nat → Int32} {n i : Nat} (hn : n ≤ 6) (hC : HeldC fav ab σ s m n) (hi : i < n) : q5_votesOf s (nI i) = some (nI (cn (vtB fav ab m (fRn m) n i 0) n)) := by
  have h : Wo (q5_votesOf s (nI i)) (fun r => r = nI (cn (vtB fav ab m (fRn m) n i 0) n)) := by
    unfold q5_votesOf
    dsimp only [lt]
    refine wo_bind ?_
    refine lpW2 n (fun k a q => q = nI k ∧ a = nI (cn (vtB fav ab m (fRn m) n i 0) k)) ?_ fuelN 0 0 0 (Nat.zero_le _) (fuel_ok (by omega)) ⟨rfl, rfl⟩
    rintro rec k a q hk ⟨rfl, rfl⟩ IH
    rw [hC.1]
    refine wo_ite (fun hlt => ?_) (fun hge => ?_)
    · have hkn : k < n := (nI_ltI (by omega) (by omega)).mp hlt
      obtain ⟨r, er, hr⟩ := rankAt_ok 0 hn hC hkn
      have hr : VO fav ab m n 0 k r := hr
      have c1 := cn_s (P := vtB fav ab m (fRn m) n i 0) (r := k)
      rw [er]
      simp only [Option.bind_some]
      by_cases hc : vtB fav ab m (fRn m) n i 0 k = true
      · rw [if_pos hc] at c1
        rw [if_pos ((VO_iff hn hr hi).mpr hc)]
        simp only [Option.bind_some]
        rw [nI_1, nI_1]
        exact IH _ _ hkn ⟨rfl, congrArg nI c1.symm⟩
      · rw [if_neg hc] at c1
        rw [if_neg (fun q => hc ((VO_iff hn hr hi).mp q))]
        simp only [Option.bind_some]
        rw [nI_1]
        exact IH _ _ hkn ⟨rfl, congrArg nI c1.symm⟩
    · have : k = n := by
        have : ¬ k < n := fun q => hge (nI_lt q (by omega))
        omega
      subst this
      exact wo_some (wo_some rfl)
  obtain ⟨r, e, rfl⟩ := h
  exact e
theorem great_ok {s : St} {N : Nat → Nat} {S : Nat → Bool} {n : Nat} (hn : n ≤ 6) (h6 : s 6 6 = nI n) (hN : ∀ r, N r < 100) (hs : ∀ r, r < n → S r = true → s 10 r = nI (N r)) : Wo (q5_greatest s (nI (bs S n))) (fun x => (x = -1 ∧ ∀ r, r < n → S r = false) ∨ ∃ g, g < n ∧ S g = true ∧ x = nI g ∧ ∀ o, o < n → S o = true → N o < N g ∨ (N o = N g ∧ g ≤ o)) := by
  unfold q5_greatest
  dsimp only [lt]
  refine wo_bind ?_
  refine lpW2 n (fun k a q => q = nI k ∧ ((a = -1 ∧ ∀ r, r < k → S r = false) ∨ ∃ g, g < n ∧ S g = true ∧ a = nI g ∧ g < k ∧ ∀ o, o < k → S o = true → N o < N g ∨ (N o = N g ∧ g ≤ o))) ?_ fuelN 0 (-1) 0 (Nat.zero_le _) (fuel_ok (by omega)) ⟨rfl, Or.inl ⟨rfl, fun r hr => absurd hr (Nat.not_lt_zero _)⟩⟩
  rintro rec k a q hk ⟨rfl, ha⟩ IH
  rw [h6]
  refine wo_ite (fun hlt => ?_) (fun hge => ?_)
  · have hkn : k < n := (nI_ltI (by omega) (by omega)).mp hlt
    rw [isIn_bs hn hkn]
    by_cases hS : S k = true
    · rw [if_pos hS]
      rcases ha with ⟨rfl, hno⟩ | ⟨g, g1, g2, rfl, g3, g4⟩
      · simp only [if_true, Option.bind_some]
        rw [nI_1]
        refine IH _ _ hkn ⟨rfl, Or.inr ⟨k, hkn, hS, rfl, by omega, fun o ho hSo => ?_⟩⟩
        by_cases hok : o = k
        · subst hok; exact Or.inr ⟨rfl, Nat.le_refl _⟩
        · rw [hno o (by omega)] at hSo; cases hSo
      · rw [if_neg (nI_m1 (by omega)), ag_nI (k := k) rfl (by omega) (by decide), ag_nI (k := g) rfl (by omega) (by decide), hs k hkn hS, hs g g1 g2]
        simp only [Option.bind_some]
        have n1 := hN k
        have n2 := hN g
        by_cases hc : N g < N k
        · rw [if_pos (nI_lt hc (by omega))]
          simp only [if_true, Option.bind_some]
          rw [nI_1]
          refine IH _ _ hkn ⟨rfl, Or.inr ⟨k, hkn, hS, rfl, by omega, fun o ho hSo => ?_⟩⟩
          by_cases hok : o = k
          · subst hok; exact Or.inr ⟨rfl, Nat.le_refl _⟩
          · rcases g4 o (by omega) hSo with h | h <;> exact Or.inl (by omega)
        · rw [if_neg (fun q => hc ((nI_ltI (by omega) (by omega)).mp q))]
          simp only [Bool.false_eq_true, if_false, Option.bind_some]
          rw [nI_1]
          refine IH _ _ hkn ⟨rfl, Or.inr ⟨g, g1, g2, rfl, by omega, fun o ho hSo => ?_⟩⟩
          by_cases hok : o = k
          · subst hok; omega
          · exact g4 o (by omega) hSo
    · rw [if_neg hS]
      simp only [Option.bind_some, Bool.false_eq_true, if_false]
      rw [nI_1]
      refine IH _ _ hkn ⟨rfl, ha.imp (fun h => ⟨h.1, fun r hr => ?_⟩) (fun ⟨g, g1, g2, g3, g4, g5⟩ => ⟨g, g1, g2, g3, by omega, fun o ho hSo => ?_⟩)⟩
      · by_cases hrk : r = k
        · rw [hrk]; exact Bool.not_eq_true _ |>.mp hS
        · exact h.2 r (by omega)
      · by_cases hok : o = k
        · subst hok; exact absurd hSo hS
        · exact g5 o (by omega) hSo
  · have hke : k = n := by
      have : ¬ k < n := fun q => hge (nI_lt q (by omega))
      omega
    subst hke
    exact wo_some (wo_some (ha.imp id (fun ⟨g, g1, g2, g3, _, g5⟩ => ⟨g, g1, g2, g3, g5⟩)))
/-- the votes of r, if those in K vote for i -/
def hwP (fav : FavT) (ab : AbsT) (m : Nat → Int32) (n i K r v : Nat) : Bool := if K.testBit v = true then decide (r = i) else vtB fav ab m (fRn m) n r 0 v
def hwX (fav : FavT) (ab : AbsT) (m : Nat → Int32) (n i K o : Nat) : Bool := fRn m o && (!decide (o = i) && !decide (cn (hwP fav ab m n i K o) n < cn (hwP fav ab m n i K i) n ∨ (cn (hwP fav ab m n i K o) n = cn (hwP fav ab m n i K i) n ∧ i < o)))
def hwB (fav : FavT) (ab : AbsT) (m : Nat → Int32) (n i K : Nat) : Bool := decide (cn (hwX fav ab m n i K) n = 0)
theorem hw_iff {fav : FavT} {ab : AbsT} {m : Nat → Int32} {n i K g : Nat} (hi : i < n) (hRi : fRn m i = true) (hg : g < n) (hRg : fRn m g = true) (hG : ∀ o, o < n → fRn m o = true → cn (hwP fav ab m n i K o) n < cn (hwP fav ab m n i K g) n ∨ (cn (hwP fav ab m n i K o) n = cn (hwP fav ab m n i K g) n ∧ g ≤ o)) : hwB fav ab m n i K = decide (g = i) := by
  unfold hwB
  refine decide_eq_decide.mpr ⟨fun h => ?_, fun h => ?_⟩
  · have h := cn_0.mp h g hg
    by_cases hgi : g = i
    · exact hgi
    · exfalso
      unfold hwX at h
      rw [hRg, decide_eq_false hgi, Bool.true_and, Bool.not_false, Bool.true_and] at h
      have h := of_decide_eq_true ((Bool.not_eq_false' _).mp h)
      have h2 := hG i hi hRi
      omega
  · subst h
    refine cn_0.mpr (fun o ho => ?_)
    unfold hwX
    cases hRo : fRn m o with
    | false => rfl
    | true =>
      by_cases hoi : o = g
      · rw [decide_eq_true hoi]; rfl
      · have h2 := hG o ho hRo
        rw [decide_eq_false hoi, decide_eq_true (by omega)]
        rfl
theorem has11 {fav : FavT} {ab : AbsT} {σ s : St} {m : Nat → Int32} {n i K : Nat} (hn : n ≤ 6) (hC : HeldC fav ab σ s m n) (hi : i < n) (hRi : fRn m i = true) (hK : K < 64) : Wo (q5_hasItWith s (nI i) (nI K)) (fun x => x.1 = hwB fav ab m n i K ∧ ∀ j, j ≠ 10 → x.2 j = s j) := by
  unfold q5_hasItWith
  dsimp only [lt]
  have f0 : ∀ r, r < 6 → fil s 10 6 0 10 r = 0 := fun r hr => by unfold fil; rw [if_pos rfl, if_pos hr]
  have f1 : ∀ i, i ≠ 10 → fil s 10 6 0 i = s i := fun i hi => by unfold fil; rw [if_neg hi]
  refine wo_bind ?_
  refine lpW2 n (fun k a w => a = nI k ∧ (∀ r, r < n → w 10 r = nI (cn (hwP fav ab m n i K r) k)) ∧ ∀ i, i ≠ 10 → w i = s i) ?_ fuelN 0 0 _ (Nat.zero_le _) (fuel_ok (by omega)) ⟨rfl, fun r hr => f0 r (by omega), f1⟩
  rintro rec k a w hk ⟨rfl, w1, w2⟩ IH
  have hC' := hC.re w2
  rw [hC'.1]
  refine wo_ite (fun hlt => ?_) (fun hge => ?_)
  · have hkn : k < n := (nI_ltI (by omega) (by omega)).mp hlt
    have hone : ∀ x, x < n → hwP fav ab m n i K x k = true → (∀ z, z < n → hwP fav ab m n i K z k = true → z = x) → Wo (Option.bind (if ¬ nI x = (-1) then (Option.bind (ag w 10 6 (nI x)) fun x33_ => Option.bind (sa w 10 6 (nI x) (x33_ + 1)) fun σ35_ => some (σ35_)) else (some (w))) fun y26_ => rec (nI k + 1) y26_) (fun a => Wo (Option.bind (Option.bind (q5_greatest a.2 (a.2 6 7)) fun x44_ => if x44_ = nI i then some true else some false) fun x39_ => some (x39_, a.2)) (fun x => x.1 = hwB fav ab m n i K ∧ ∀ j, j ≠ 10 → x.2 j = s j)) := fun x hx hp hu => by
      rw [if_pos (nI_m1 (by omega)), ag_nI (k := x) rfl (by omega) (by decide)]
      simp only [Option.bind_some]
      rw [sa_nI (k := x) rfl (by omega) (by decide), w1 x hx, nI_1, nI_1]
      simp only [Option.bind_some]
      refine IH _ _ hkn ⟨rfl, fun r hr => ?_, fun i hi => by rw [up_pl hi]; exact w2 i hi⟩
      have c1 := cn_s (P := hwP fav ab m n i K r) (r := k)
      by_cases hrx : r = x
      · subst hrx
        rw [hp, if_pos rfl] at c1
        rw [up_at, c1]
      · have hb : hwP fav ab m n i K r k = false := by
          cases hb : hwP fav ab m n i K r k with
          | false => rfl
          | true => exact absurd (hu r hr hb) hrx
        rw [hb, if_neg (by decide)] at c1
        rw [up_off hrx, w1 r hr, c1]
        rfl
    rw [isIn_bit K hK k (by omega)]
    by_cases hT : K.testBit k = true
    · rw [if_pos hT]
      simp only [Option.bind_some]
      refine hone i hi ?_ (fun z hz hp => ?_)
      · unfold hwP; rw [if_pos hT]; exact decide_eq_true rfl
      · unfold hwP at hp; rw [if_pos hT] at hp; exact of_decide_eq_true hp
    · rw [if_neg hT]
      obtain ⟨r, er, hr⟩ := rankAt_ok 0 hn hC' hkn
      have eP : ∀ x, hwP fav ab m n i K x k = vtB fav ab m (fRn m) n x 0 k := fun x => by unfold hwP; rw [if_neg hT]
      rw [er]
      simp only [Option.bind_some]
      rcases hr with ⟨rfl, hno⟩ | ⟨x, x1, x2, rfl, x4⟩
      · simp only [not_true_eq_false, if_false, Option.bind_some]
        rw [nI_1]
        refine IH _ _ hkn ⟨rfl, fun r hr => ?_, w2⟩
        have c1 := cn_s (P := hwP fav ab m n i K r) (r := k)
        rw [eP, hno r hr, if_neg (by decide)] at c1
        rw [w1 r hr, c1]
        rfl
      · exact hone x x1 (by rw [eP]; exact x2) (fun z hz hp => x4 z hz (by rw [← eP]; exact hp))
  · have : k = n := by
      have : ¬ k < n := fun q => hge (nI_lt q (by omega))
      omega
    subst this
    refine wo_some ?_
    dsimp only
    rw [hC'.2.1]
    obtain ⟨x, ex, hx⟩ := great_ok (S := fRn m) (N := fun r => cn (hwP fav ab m k i K r) k) hn hC'.1 (fun r => Nat.lt_of_le_of_lt (cn_top _) (by omega)) (fun r hr _ => w1 r hr)
    rw [ex]
    simp only [Option.bind_some]
    rcases hx with ⟨-, hno⟩ | ⟨g, g1, g2, rfl, g4⟩
    · rw [hno i hi] at hRi; cases hRi
    · have e := hw_iff (fav := fav) (ab := ab) (K := K) hi hRi g1 g2 g4
      by_cases hgi : g = i
      · subst hgi
        rw [if_pos rfl]
        refine wo_some ⟨?_, w2⟩
        rw [e]
        exact (decide_eq_true rfl).symm
      · rw [if_neg (nIe (by omega) (by omega) hgi)]
        refine wo_some ⟨?_, w2⟩
        rw [e]
        exact (decide_eq_false hgi).symm
theorem cn_mono {P : Nat → Bool} {a : Nat} : ∀ {b : Nat}, a ≤ b → cn P a ≤ cn P b
  | 0, h => by rw [show a = 0 by omega]; exact Nat.le_refl _
  | b + 1, h => by
    by_cases e : a = b + 1
    · rw [e]; exact Nat.le_refl _
    · have := cn_mono (P := P) (show a ≤ b by omega)
      rw [cn_s]; split <;> omega
theorem cn_sum {P A B : Nat → Bool} (h : ∀ k, (if P k = true then 1 else 0) = (if A k = true then 1 else 0) + (if B k = true then (1 : Nat) else 0)) : ∀ n, cn P n = cn A n + cn B n
  | 0 => rfl
  | n + 1 => by
    have := cn_sum h n
    have := h n
    rw [cn_s, cn_s, cn_s]
    omega
theorem wooed12 {LR : LRT} {fav : FavT} {ab : AbsT} (L : LawF LR fav ab) {ν u : St} {m : Nat → Int32} {n i K : Nat} (hn : n ≤ 6) (hW : WFm m n) (h3 : m 3 = nI n) (hu : u 1 = m) (hL : ∃ a b c, LR a b c (m 1) (m 2) (fun k => m (352 + k))) (hM : HeldM fav ab ν u m n) (hi : i < n) (hK : K < 64) : q12_isWooed u (nI i) (nI K) = some (hwB fav ab m n i K) := by
  have h : Wo (q12_isWooed u (nI i) (nI K)) (fun r => r = hwB fav ab m n i K) := by
    unfold q12_isWooed
    dsimp only [lt]
    rw [hM.2.1]
    refine wo_st (votesAt_ok L 0 hn hW h3 hu hL hM hi) ?_
    have hct := cn_top (P := vtB fav ab m (fRn m) n i 0) n
    have hmine : cn (hwP fav ab m n i K i) n = cn (vtB fav ab m (fRn m) n i 0) n + cn (fun v => K.testBit v && !vtB fav ab m (fRn m) n i 0 v) n := by
      refine cn_sum (fun k => ?_) n
      unfold hwP
      rw [decide_eq_true rfl]
      cases K.testBit k <;> cases vtB fav ab m (fRn m) n i 0 k <;> rfl
    refine wo_bind (wo_mono (Q := fun y => y.1 = nI (cn (hwP fav ab m n i K i) n)) ?_ ?_)
    · rw [hmine]
      refine lpW2 n (fun k a q => q = nI k ∧ a = nI (cn (vtB fav ab m (fRn m) n i 0) n + cn (fun v => K.testBit v && !vtB fav ab m (fRn m) n i 0 v) k)) ?_ fuelN 0 _ 0 (Nat.zero_le _) (fuel_ok (by omega)) ⟨rfl, rfl⟩
      rintro rec k a q hk ⟨rfl, rfl⟩ IH
      refine wo_st ag3 ?_
      rw [hu, h3]
      refine wo_ite (fun hlt => ?_) (fun hge => ?_)
      · have hkn : k < n := (nI_ltI (by omega) (by omega)).mp hlt
        obtain ⟨r, er, hr⟩ := voteOf_ok L hn hW h3 hu hL hM hkn
        have c1 := cn_s (P := fun v => K.testBit v && !vtB fav ab m (fRn m) n i 0 v) (r := k)
        rw [isOf_isIn, isIn_bit K hK k (by omega), er]
        simp only [Option.bind_some]
        cases hT : K.testBit k with
        | false =>
          rw [hT, Bool.false_and, if_neg (by decide)] at c1
          simp only [Bool.false_eq_true, if_false, Option.bind_some]
          rw [Int32.add_zero, nI_1]
          exact IH _ _ hkn ⟨rfl, by rw [c1]; rfl⟩
        | true =>
          simp only [if_true]
          cases hb : vtB fav ab m (fRn m) n i 0 k with
          | true =>
            rw [hT, hb, Bool.not_true, Bool.and_false, if_neg (by decide)] at c1
            rw [if_neg (not_not_intro ((VO_iff hn hr hi).mpr hb))]
            simp only [Bool.false_eq_true, if_false, Option.bind_some]
            rw [Int32.add_zero, nI_1]
            exact IH _ _ hkn ⟨rfl, by rw [c1]; rfl⟩
          | false =>
            rw [hT, hb, Bool.not_false, Bool.and_self, if_pos rfl] at c1
            rw [if_pos (fun q => by rw [(VO_iff hn hr hi).mp q] at hb; cases hb)]
            simp only [if_true, Option.bind_some]
            rw [nI_1, nI_1]
            exact IH _ _ hkn ⟨rfl, by rw [c1]; rfl⟩
      · have : k = n := by
          have : ¬ k < n := fun q => hge (nI_lt q (by omega))
          omega
        subst this
        exact wo_some rfl
    · rintro ⟨y, y'⟩ hy
      dsimp only at hy ⊢
      subst hy
      refine wo_bind ?_
      refine lpW2 n (fun k a q => q = nI k ∧ a = decide (cn (hwX fav ab m n i K) k = 0)) ?_ fuelN 0 _ 0 (Nat.zero_le _) (fuel_ok (by omega)) ⟨rfl, rfl⟩
      rintro rec k a q hk ⟨rfl, rfl⟩ IH
      refine wo_st ag3 ?_
      rw [hu, h3]
      have c1 := cn_s (P := hwX fav ab m n i K) (r := k)
      refine wo_ite (fun hlt => ?_) (fun hge => ?_)
      · have hkn : k < n := (nI_ltI (by omega) (by omega)).mp hlt.1
        have h0 := of_decide_eq_true hlt.2
        rw [h0, Nat.zero_add] at c1
        have hki : nI k = nI i ↔ k = i := nI_eq (by omega) (by omega)
        rw [isOf_isIn, isIn_bs hn hkn]
        by_cases hc : k = i ∨ ¬ fRn m k = true
        · rw [if_pos (hc.imp hki.mpr id), nI_1]
          refine IH _ _ hkn ⟨rfl, ?_⟩
          have hx : hwX fav ab m n i K k = false := by
            unfold hwX
            rcases hc with h | h
            · rw [decide_eq_true h, Bool.not_true, Bool.false_and, Bool.and_false]
            · rw [Bool.not_eq_true _ |>.mp h, Bool.false_and]
          rw [hx, if_neg (by decide)] at c1
          rw [h0, c1]
        · have hRk : fRn m k = true := Decidable.byContradiction (fun q => hc (Or.inr q))
          have hne : k ≠ i := fun q => hc (Or.inl q)
          rw [if_neg (fun q => hc (q.imp hki.mp id))]
          refine wo_st (votesAt_ok L 0 hn hW h3 hu hL hM hkn) ?_
          have hits : cn (vtB fav ab m (fRn m) n k 0) n = cn (hwP fav ab m n i K k) n + cn (fun v => K.testBit v && vtB fav ab m (fRn m) n k 0 v) n := by
            refine cn_sum (fun j => ?_) n
            unfold hwP
            rw [decide_eq_false hne]
            cases K.testBit j <;> cases vtB fav ab m (fRn m) n k 0 j <;> rfl
          have hct2 := cn_top (P := vtB fav ab m (fRn m) n k 0) n
          have hct3 := cn_top (P := hwP fav ab m n i K i) n
          refine wo_bind (wo_mono (Q := fun y => y.1 = nI (cn (hwP fav ab m n i K k) n)) ?_ ?_)
          · refine lpW2 n (fun j a q => q = nI j ∧ a = nI (cn (vtB fav ab m (fRn m) n k 0) n - cn (fun v => K.testBit v && vtB fav ab m (fRn m) n k 0 v) j)) ?_ fuelN 0 _ 0 (Nat.zero_le _) (fuel_ok (by omega)) ⟨rfl, rfl⟩
            rintro rec2 j a q hj ⟨rfl, rfl⟩ IH2
            refine wo_st ag3 ?_
            rw [hu, h3]
            refine wo_ite (fun hlt2 => ?_) (fun hge2 => ?_)
            · have hjn : j < n := (nI_ltI (by omega) (by omega)).mp hlt2
              obtain ⟨r, er, hr⟩ := voteOf_ok L hn hW h3 hu hL hM hjn
              have d1 := cn_s (P := fun v => K.testBit v && vtB fav ab m (fRn m) n k 0 v) (r := j)
              have d2 := cn_mono (P := fun v => K.testBit v && vtB fav ab m (fRn m) n k 0 v) (show j + 1 ≤ n by omega)
              rw [isOf_isIn, isIn_bit K hK j (by omega), er]
              simp only [Option.bind_some]
              cases hT : (K.testBit j && vtB fav ab m (fRn m) n k 0 j) with
              | false =>
                rw [hT, if_neg (by decide)] at d1
                have et : (if K.testBit j = true then (if r = nI k then (some true) else (some false)) else (some false)) = some false := by
                  cases hT1 : K.testBit j with
                  | false => rfl
                  | true =>
                    rw [hT1, Bool.true_and] at hT
                    rw [if_pos rfl, if_neg (fun q => by rw [(VO_iff hn hr hkn).mp q] at hT; cases hT)]
                rw [et]
                simp only [Bool.false_eq_true, if_false, Option.bind_some]
                rw [Int32.sub_zero, nI_1]
                exact IH2 _ _ hjn ⟨rfl, by rw [d1]; rfl⟩
              | true =>
                rw [hT, if_pos rfl] at d1
                rw [Bool.and_eq_true] at hT
                rw [if_pos hT.1, if_pos ((VO_iff hn hr hkn).mpr hT.2)]
                simp only [if_true, Option.bind_some]
                have e1 := nI_pred (cn (vtB fav ab m (fRn m) n k 0) n - cn (fun v => K.testBit v && vtB fav ab m (fRn m) n k 0 v) (j + 1))
                rw [show cn (vtB fav ab m (fRn m) n k 0) n - cn (fun v => K.testBit v && vtB fav ab m (fRn m) n k 0 v) (j + 1) + 1 = cn (vtB fav ab m (fRn m) n k 0) n - cn (fun v => K.testBit v && vtB fav ab m (fRn m) n k 0 v) j from by omega] at e1
                rw [e1, nI_1]
                exact IH2 _ _ hjn ⟨rfl, rfl⟩
            · have : j = n := by
                have : ¬ j < n := fun q => hge2 (nI_lt q (by omega))
                omega
              subst this
              refine wo_some ?_
              dsimp only
              congr 1
              omega
          · rintro ⟨z, z'⟩ hz
            dsimp only at hz ⊢
            subst hz
            have hct4 := cn_top (P := hwP fav ab m n i K k) n
            rw [nI_1]
            refine IH _ _ hkn ⟨rfl, ?_⟩
            have e1 : (nI (cn (hwP fav ab m n i K k) n) < nI (cn (hwP fav ab m n i K i) n) ∨ (nI (cn (hwP fav ab m n i K i) n) = nI (cn (hwP fav ab m n i K k) n) ∧ nI i < nI k)) ↔ (cn (hwP fav ab m n i K k) n < cn (hwP fav ab m n i K i) n ∨ (cn (hwP fav ab m n i K k) n = cn (hwP fav ab m n i K i) n ∧ i < k)) := by
              rw [nI_ltI (by omega) (by omega), nI_ltI (by omega) (by omega), nI_eq (by omega) (by omega)]
              omega
            refine decide_eq_decide.mpr (e1.trans ?_)
            rw [c1]
            unfold hwX
            rw [hRk, decide_eq_false hne]
            by_cases hq : cn (hwP fav ab m n i K k) n < cn (hwP fav ab m n i K i) n ∨ (cn (hwP fav ab m n i K k) n = cn (hwP fav ab m n i K i) n ∧ i < k)
            · rw [decide_eq_true hq]
              exact ⟨fun _ => rfl, fun _ => hq⟩
            · rw [decide_eq_false hq]
              exact ⟨fun h => absurd h hq, fun h => by cases h⟩
      · refine wo_some (wo_some ?_)
        dsimp only
        unfold hwB
        by_cases h0 : cn (hwX fav ab m n i K) k = 0
        · have : k = n := by
            have : ¬ k < n := fun q => hge ⟨nI_lt q (by omega), decide_eq_true h0⟩
            omega
          rw [this]
        · have := cn_mono (P := hwX fav ab m n i K) hk
          rw [decide_eq_false h0, decide_eq_false (by omega)]
  obtain ⟨r, e, rfl⟩ := h
  exact e
/-- the best of the first k sets -/
def wbX (V : Nat) (h : Nat → Bool) (k : Nat) (b : Int32) : Bool := decide (k &&& V = k) && (decide (b = -1 ∨ bcount (nI k) < bcount b) && h k)
def wbF (V : Nat) (h : Nat → Bool) : Nat → Int32
  | 0 => -1
  | k + 1 => if wbX V h k (wbF V h k) = true then nI k else wbF V h k
theorem wbF_s {V : Nat} {h : Nat → Bool} {k : Nat} : wbF V h (k + 1) = if wbX V h k (wbF V h k) = true then nI k else wbF V h k := rfl
theorem wbF_v {V : Nat} {h : Nat → Bool} : ∀ k, wbF V h k = -1 ∨ ∃ j, j < k ∧ wbF V h k = nI j
  | 0 => Or.inl rfl
  | k + 1 => by
    rw [wbF_s]
    split
    · exact Or.inr ⟨k, by omega, rfl⟩
    · exact (wbF_v k).imp id (fun ⟨j, h1, h2⟩ => ⟨j, by omega, h2⟩)
theorem wbF_stop {V : Nat} {h : Nat → Bool} : ∀ d, wbF V h (V + 1 + d) = wbF V h (V + 1)
  | 0 => rfl
  | d + 1 => by
    have e := wbF_s (V := V) (h := h) (k := V + 1 + d)
    rw [← Nat.add_assoc, e, wbF_stop d, if_neg]
    intro q
    unfold wbX at q
    rw [Bool.and_eq_true, decide_eq_true_eq] at q
    have := Nat.and_le_right (n := V + 1 + d) (m := V)
    omega
theorem and_not0 {a b : Nat} (ha : a < 64) (hb : b < 64) : nI a &&& (nI b ^^^ (-1)) = 0 ↔ a &&& b = a := by
  have := Nat.and_le_left (n := a) (m := b)
  rw [and_not a ha b hb, nI_0i (by omega)]
  omega
theorem won_ok {LR : LRT} {fav : FavT} {ab : AbsT} (L : LawF LR fav ab) {σ s ν u : St} {m : Nat → Int32} {n i : Nat} (hn : n ≤ 6) (hW : WFm m n) (h3 : m 3 = nI n) (hu : u 1 = m) (hL : ∃ a b c, LR a b c (m 1) (m 2) (fun k => m (352 + k))) (hC : HeldC fav ab σ s m n) (hM : HeldM fav ab ν u m n) (hi : i < n) : ∃ (x : Int32) (s' : St), q5_wonOver s (nI i) = some (x, s') ∧ (x = -1 ∨ ∃ j, j < 64 ∧ x = nI j) ∧ (∀ j, j ≠ 10 → s' j = s j) ∧ ((fRn m i = false ∧ x = -1) ∨ (fRn m i = true ∧ q12_wooed u (nI i) = some x)) := by
  cases hRi : fRn m i with
  | false =>
    refine ⟨-1, s, ?_, Or.inl rfl, fun _ _ => rfl, Or.inl ⟨rfl, rfl⟩⟩
    unfold q5_wonOver
    rw [hC.2.1, isIn_bs hn hi, hRi]
    rfl
  | true =>
    have hbV := bs_le hn (fVt ab m)
    have h11 : Wo (q5_wonOver s (nI i)) (fun x => x.1 = wbF (bs (fVt ab m) n) (hwB fav ab m n i) 64 ∧ ∀ j, j ≠ 10 → x.2 j = s j) := by
      unfold q5_wonOver
      dsimp only [lt]
      rw [hC.2.1, isIn_bs hn hi, hRi]
      simp only [not_true_eq_false, if_false]
      refine wo_bind ?_
      refine lpW3 64 (fun k a q w => q = nI k ∧ a = wbF (bs (fVt ab m) n) (hwB fav ab m n i) k ∧ ∀ j, j ≠ 10 → w j = s j) ?_ fuelN 0 _ 0 s (Nat.zero_le _) (fuel_ok (by omega)) ⟨rfl, rfl, fun _ _ => rfl⟩
      rintro rec k a q w hk ⟨rfl, rfl, wf⟩ IH
      have hC' := hC.re wf
      have e64 : nI k < 64 ↔ k < 64 := nI_ltI (b := 64) (by omega) (by decide)
      refine wo_ite (fun hlt => ?_) (fun hge => ?_)
      · have hk64 := e64.mp hlt
        have es := wbF_s (V := bs (fVt ab m) n) (h := hwB fav ab m n i) (k := k)
        rw [hC'.2.2.2.1]
        by_cases h1 : k &&& bs (fVt ab m) n = k
        · rw [if_pos ((and_not0 hk64 hbV).mpr h1)]
          by_cases h2 : wbF (bs (fVt ab m) n) (hwB fav ab m n i) k = -1 ∨ bcount (nI k) < bcount (wbF (bs (fVt ab m) n) (hwB fav ab m n i) k)
          · rw [if_pos (decide_eq_true h2)]
            obtain ⟨⟨b, w'⟩, eb, hb, hf⟩ := has11 hn hC' hi hRi hk64
            dsimp only at hb hf
            subst hb
            rw [eb]
            simp only [Option.bind_some]
            have hf' : ∀ j, j ≠ 10 → w' j = s j := fun j hj => by rw [hf j hj]; exact wf j hj
            cases hh : hwB fav ab m n i k with
            | true =>
              simp only [if_true, Option.bind_some]
              rw [nI_1]
              refine IH _ _ _ hk64 ⟨rfl, ?_, hf'⟩
              rw [es, if_pos]
              unfold wbX
              rw [decide_eq_true h1, decide_eq_true h2, hh]
              rfl
            | false =>
              simp only [Bool.false_eq_true, if_false, Option.bind_some]
              rw [nI_1]
              refine IH _ _ _ hk64 ⟨rfl, ?_, hf'⟩
              rw [es, if_neg]
              unfold wbX
              rw [hh, Bool.and_false, Bool.and_false]
              decide
          · rw [if_neg (by rw [decide_eq_false h2]; decide)]
            simp only [Bool.false_eq_true, if_false, Option.bind_some]
            rw [nI_1]
            refine IH _ _ _ hk64 ⟨rfl, ?_, wf⟩
            rw [es, if_neg]
            unfold wbX
            rw [decide_eq_false h2, Bool.false_and, Bool.and_false]
            decide
        · rw [if_neg (fun q => h1 ((and_not0 hk64 hbV).mp q))]
          simp only [Bool.false_eq_true, if_false, Option.bind_some]
          rw [nI_1]
          refine IH _ _ _ hk64 ⟨rfl, ?_, wf⟩
          rw [es, if_neg]
          unfold wbX
          rw [decide_eq_false h1, Bool.false_and]
          decide
      · have : k = 64 := by
          have : ¬ k < 64 := fun q => hge (e64.mpr q)
          omega
        subst this
        exact wo_some (wo_some ⟨rfl, wf⟩)
    have h12 : Wo (q12_wooed u (nI i)) (fun x => x = wbF (bs (fVt ab m) n) (hwB fav ab m n i) (bs (fVt ab m) n + 1)) := by
      unfold q12_wooed
      dsimp only [lt]
      rw [hM.1]
      refine wo_bind ?_
      refine lpW2 (bs (fVt ab m) n + 1) (fun k a q => q = nI k ∧ a = wbF (bs (fVt ab m) n) (hwB fav ab m n i) k) ?_ fuelN 0 _ 0 (Nat.zero_le _) (fuel_ok (by omega)) ⟨rfl, rfl⟩
      rintro rec k a q hk ⟨rfl, rfl⟩ IH
      have ele : nI k ≤ nI (bs (fVt ab m) n) ↔ k ≤ bs (fVt ab m) n := by
        rw [← Int32.not_lt, nI_ltI (by omega) (by omega)]
        omega
      refine wo_ite (fun hlt => ?_) (fun hge => ?_)
      · have hkV := ele.mp hlt
        have es := wbF_s (V := bs (fVt ab m) n) (h := hwB fav ab m n i) (k := k)
        have et : (if wbF (bs (fVt ab m) n) (hwB fav ab m n i) k = (-1) then (some true) else (Option.bind (q12_bits (nI k)) fun x28_ => Option.bind (q12_bits (wbF (bs (fVt ab m) n) (hwB fav ab m n i) k)) fun x30_ => if x28_ < x30_ then (some true) else (some false))) = some (decide (wbF (bs (fVt ab m) n) (hwB fav ab m n i) k = -1 ∨ bcount (nI k) < bcount (wbF (bs (fVt ab m) n) (hwB fav ab m n i) k))) := by
          rcases wbF_v (V := bs (fVt ab m) n) (h := hwB fav ab m n i) k with e | ⟨j, hj, e⟩
          · rw [e, if_pos rfl, decide_eq_true (Or.inl rfl)]
          · rw [e, if_neg (nI_m1 (by omega)), bits_ok (by omega), bits_ok (by omega)]
            simp only [Option.bind_some]
            by_cases hc : bcount (nI k) < bcount (nI j)
            · rw [if_pos hc, decide_eq_true (Or.inr hc)]
            · rw [if_neg hc, decide_eq_false (fun q => q.elim (fun q => nI_m1 (by omega) q) hc)]
        rw [et]
        by_cases h1 : k &&& bs (fVt ab m) n = k
        · rw [if_pos ((and_not0 (by omega) hbV).mpr h1)]
          simp only [Option.bind_some]
          by_cases h2 : wbF (bs (fVt ab m) n) (hwB fav ab m n i) k = -1 ∨ bcount (nI k) < bcount (wbF (bs (fVt ab m) n) (hwB fav ab m n i) k)
          · rw [if_pos (decide_eq_true h2), wooed12 L hn hW h3 hu hL hM hi (by omega)]
            simp only [Option.bind_some]
            cases hh : hwB fav ab m n i k with
            | true =>
              simp only [if_true, Option.bind_some]
              rw [nI_1]
              refine IH _ _ (by omega) ⟨rfl, ?_⟩
              rw [es, if_pos]
              unfold wbX
              rw [decide_eq_true h1, decide_eq_true h2, hh]
              rfl
            | false =>
              simp only [Bool.false_eq_true, if_false, Option.bind_some]
              rw [nI_1]
              refine IH _ _ (by omega) ⟨rfl, ?_⟩
              rw [es, if_neg]
              unfold wbX
              rw [hh, Bool.and_false, Bool.and_false]
              decide
          · rw [if_neg (by rw [decide_eq_false h2]; decide)]
            simp only [Bool.false_eq_true, if_false, Option.bind_some]
            rw [nI_1]
            refine IH _ _ (by omega) ⟨rfl, ?_⟩
            rw [es, if_neg]
            unfold wbX
            rw [decide_eq_false h2, Bool.false_and, Bool.and_false]
            decide
        · rw [if_neg (fun q => h1 ((and_not0 (by omega) hbV).mp q))]
          simp only [Bool.false_eq_true, if_false, Option.bind_some]
          rw [nI_1]
          refine IH _ _ (by omega) ⟨rfl, ?_⟩
          rw [es, if_neg]
          unfold wbX
          rw [decide_eq_false h1, Bool.false_and]
          decide
      · have : k = bs (fVt ab m) n + 1 := by
          have : ¬ k ≤ bs (fVt ab m) n := fun q => hge (ele.mpr q)
          omega
        subst this
        exact wo_some (wo_some rfl)
    obtain ⟨⟨x, s'⟩, e1, hx, hf⟩ := h11
    obtain ⟨y, e2, hy⟩ := h12
    dsimp only at hx hf
    have hst := wbF_stop (V := bs (fVt ab m) n) (h := hwB fav ab m n i) (63 - bs (fVt ab m) n)
    rw [show bs (fVt ab m) n + 1 + (63 - bs (fVt ab m) n) = 64 from by omega] at hst
    refine ⟨x, s', e1, ?_, hf, Or.inr ⟨rfl, by rw [e2, hy, ← hst, hx]⟩⟩
    rw [hx]
    exact wbF_v 64
theorem op_woo {LR : LRT} {fav : FavT} {ab : AbsT} (L : LawF LR fav ab) : Op_woo (RR LR) := by
  intro σ μ hR p
  obtain ⟨n, hN, hV, hW⟩ := hR.nn
  have hn := hN.1
  unfold q11_woo q12_woo q11_pollNow
  dsimp only [lt]
  rcases one_cases hN p with ⟨h1, h2⟩ | ⟨i, hi, rfl, h1, h2⟩
  · rw [h1, h2]
    exact ⟨(.inl 2, σ), (0, up μ 0 0 1), rfl, by simp only [Bool.false_eq_true, not_false_eq_true, if_true, up_at, if_pos lt01, Option.bind_some], sx_thr (i := 0) (by decide) (by decide) rfl, hR.t0⟩
  · rw [h1, h2]
    simp only [Option.bind_some, not_true_eq_false, if_false, up_at, if_neg lt0]
    obtain ⟨⟨s, es, hC⟩, u, eu, hM⟩ := polls (ν := up μ 0 0 0) L hR hV hW up0_1
    have u1 : u 1 = μ 1 := (hM.2.2.2.1 1 (by decide) (by decide) (by decide)).trans up0_1
    have u00 : u 0 0 = 0 := by rw [hM.2.2.2.2.1 0 (by omega), up_at]
    have hRR : RR LR s u := ((hR.heldC hC).t0).heldM hM
    obtain ⟨x, s', e1, -, e3, e4⟩ := won_ok L hn hW hN.2.2 u1 ⟨_, _, _, hR.2.2.2.2.2⟩ hC hM hi
    rw [es, eu]
    simp only [Option.bind_some]
    rw [hM.2.1, isOf_isIn, isIn_bs hn hi]
    show ∃ r1 r2, Option.bind (q5_wonOver s (nI i)) _ = some r1 ∧ _
    rw [e1]
    rcases e4 with ⟨hr, rfl⟩ | ⟨hr, hx⟩
    · rw [hr]
      exact ⟨(.inr (-1), s'), (-1, u), rfl, rfl, sx_ok u00, hRR.s10 e3⟩
    · rw [hr, hx]
      exact ⟨(.inr x, s'), (x, u), rfl, rfl, sx_ok u00, hRR.s10 e3⟩

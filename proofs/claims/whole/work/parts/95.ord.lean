/-! LAYER 2: ORDERS -/
theorem meetA_ok {fav : FavT} {ab : AbsT} {σ s : St} {m : Nat → Int32} {n : Nat} (hn : n ≤ 6) (hC : HeldC fav ab σ s m n) : Wo (q5_meetInAllOrders s) (fun s' => (∀ i, i ≠ 11 → i ≠ 12 → s' i = s i) ∧ Btn (btB fav ab m n) n s' ∧ ∀ a, 0 < a → a ≤ bs (fRn m) n → ∀ q, q < n → s' 12 (a * 6 + q) = tbD (btB fav ab m n) n (bs (fRn m) n) a q) := by
  unfold q5_meetInAllOrders
  dsimp only [lt]
  have hS := bs_le hn (fRn m)
  refine wo_bind (wo_mono (Q := fun y => Btn (btB fav ab m n) n y.2 ∧ ∀ i, i ≠ 11 → y.2 i = s i) ?_ ?_)
  · refine lpW2 n (fun k a w => a = nI k ∧ (∀ q, q < k → w 11 q = nI (bs (fun x => !decide (x = q) && btB fav ab m n q x) n)) ∧ ∀ i, i ≠ 11 → w i = s i) ?_ fuelN 0 0 s (Nat.zero_le _) (fuel_ok (by omega)) ⟨rfl, fun q hq => absurd hq (Nat.not_lt_zero _), fun _ _ => rfl⟩
    rintro rec k a w hk ⟨rfl, w1, w2⟩ IH
    rw [w2 6 (by decide), hC.1]
    refine wo_ite (fun hlt => ?_) (fun hge => ?_)
    · have hkn : k < n := (nI_ltI (by omega) (by omega)).mp hlt
      refine wo_st (sa_nI (k := k) rfl (by omega) (by decide)) ?_
      refine wo_bind ?_
      refine lpW2 n (fun j b v => b = nI j ∧ v 11 k = nI (bs (fun x => !decide (x = k) && btB fav ab m n k x) j) ∧ (∀ q, q ≠ k → v 11 q = w 11 q) ∧ ∀ i, i ≠ 11 → v i = s i) ?_ fuelN 0 0 _ (Nat.zero_le _) (fuel_ok (by omega)) ⟨rfl, up_at, fun q hq => up_off hq, fun i hi => by rw [up_pl hi]; exact w2 i hi⟩
      rintro rec2 j b v hj ⟨rfl, v1, v2, v3⟩ IH2
      rw [v3 6 (by decide), hC.1]
      refine wo_ite (fun hlt2 => ?_) (fun hge2 => ?_)
      · have hjn : j < n := (nI_ltI (by omega) (by omega)).mp hlt2
        have hCv := hC.re6 (v3 6 (by decide)) (v3 7 (by decide)) (v3 8 (by decide))
        have et : (if ¬ nI k = nI j then (Option.bind (q5_isAhead v (nI k) (nI j)) fun x39_ => if x39_ = true then (some true) else (some false)) else (some false)) = some (!decide (j = k) && btB fav ab m n k j) := by
          by_cases hjk : j = k
          · subst hjk
            rw [if_neg (not_not_intro rfl), decide_eq_true rfl]
            rfl
          · rw [if_pos (nIe (by omega) (by omega) (Ne.symm hjk)), ahead11 hn hCv hkn hjn (Ne.symm hjk), decide_eq_false hjk]
            cases btB fav ab m n k j <;> rfl
        rw [et, nI_1]
        simp only [Option.bind_some]
        cases hc : (!decide (j = k) && btB fav ab m n k j) with
        | true =>
          rw [if_pos rfl, ag_nI (k := k) rfl (by omega) (by decide), v1]
          simp only [Option.bind_some]
          rw [sa_nI (k := k) rfl (by omega) (by decide)]
          simp only [Option.bind_some]
          refine IH2 _ _ hjn ⟨rfl, ?_, fun q hq => by rw [up_off hq]; exact v2 q hq, fun i hi => by rw [up_pl hi]; exact v3 i hi⟩
          rw [up_at, or_bit j (by omega) _ (bs_le (by omega) _) (bs_lt _ j)]
          show _ = nI (bs _ j + _)
          rw [if_pos hc]
        | false =>
          rw [if_neg (by decide)]
          simp only [Option.bind_some]
          refine IH2 _ _ hjn ⟨rfl, ?_, v2, v3⟩
          rw [v1]
          show _ = nI (bs _ j + _)
          rw [if_neg (fun q => by have q : (!decide (j = k) && btB fav ab m n k j) = true := q; rw [hc] at q; cases q)]
          rfl
      · have : j = n := by
          have : ¬ j < n := fun q => hge2 (nI_lt q (by omega))
          omega
        subst this
        refine wo_some ?_
        dsimp only
        rw [nI_1]
        refine IH _ _ hkn ⟨rfl, fun q hq => ?_, v3⟩
        by_cases hqk : q = k
        · subst hqk; exact v1
        · rw [v2 q hqk]; exact w1 q (by omega)
    · have : k = n := by
        have : ¬ k < n := fun q => hge (nI_lt q (by omega))
        omega
      subst this
      exact wo_some ⟨w1, w2⟩
  · rintro ⟨p, y⟩ ⟨yB, yf⟩
    dsimp only at yB yf ⊢
    have y6 : y 6 = s 6 := yf 6 (by decide)
    rw [y6, hC.2.1]
    refine wo_bind ?_
    refine lpW2 (bs (fRn m) n) (fun t a w => a = nI (bs (fRn m) n - t) ∧ (∀ a, bs (fRn m) n - t < a → a ≤ bs (fRn m) n → ∀ q, q < n → w 12 (a * 6 + q) = tbD (btB fav ab m n) n (bs (fRn m) n) a q) ∧ ∀ i, i ≠ 12 → w i = y i) ?_ fuelN 0 _ y (Nat.zero_le _) (fuel_ok (by omega)) ⟨rfl, fun a h1 h2 => by omega, fun _ _ => rfl⟩
    rintro rec t a w ht ⟨rfl, w1, w2⟩ IH
    have e0 : (0 : Int32) < nI (bs (fRn m) n - t) ↔ t < bs (fRn m) n := by
      rw [show (0 : Int32) = nI 0 from rfl, nI_ltI (by omega) (by omega)]
      omega
    by_cases htS : t < bs (fRn m) n
    · rw [if_pos (e0.mpr htS)]
      refine wo_bind ?_
      refine lpW2 n (fun k a v => a = nI k ∧ (∀ q, q < k → v 12 ((bs (fRn m) n - t) * 6 + q) = tbD (btB fav ab m n) n (bs (fRn m) n) (bs (fRn m) n - t) q) ∧ (∀ a, bs (fRn m) n - t < a → a ≤ bs (fRn m) n → ∀ q, q < n → v 12 (a * 6 + q) = tbD (btB fav ab m n) n (bs (fRn m) n) a q) ∧ ∀ i, i ≠ 12 → v i = y i) ?_ fuelN 0 0 w (Nat.zero_le _) (fuel_ok (by omega)) ⟨rfl, fun q hq => absurd hq (Nat.not_lt_zero _), w1, w2⟩
      rintro rec2 k a v hk ⟨rfl, v1, v2, v3⟩ IH2
      have v66 : v 6 6 = nI n := by rw [v3 6 (by decide), y6]; exact hC.1
      have v67 : v 6 7 = nI (bs (fRn m) n) := by rw [v3 6 (by decide), y6]; exact hC.2.1
      rw [v66]
      refine wo_ite (fun hlt2 => ?_) (fun hge2 => ?_)
      · have hkn : k < n := (nI_ltI (by omega) (by omega)).mp hlt2
        have hB : Btn (btB fav ab m n) n v := fun a ha => by rw [v3 11 (by decide)]; exact yB a ha
        refine wo_st (ends_ok hn v66 v67 hS (fun k hk => bs_bit_ge (fRn m) hk) hB (by omega) hkn v2) ?_
        refine wo_st (sa_nI (ix_6 _ _) (by omega) (by decide)) ?_
        rw [nI_1]
        refine IH2 _ _ hkn ⟨rfl, fun q hq => ?_, fun a h1 h2 q hq => ?_, fun i hi => by rw [up_pl hi]; exact v3 i hi⟩
        · by_cases hqk : q = k
          · subst hqk; rw [up_at]
          · rw [up_off (by omega)]; exact v1 q (by omega)
        · rw [up_off (by omega)]; exact v2 a h1 h2 q hq
      · have : k = n := by
          have : ¬ k < n := fun q => hge2 (nI_lt q (by omega))
          omega
        subst this
        refine wo_some ?_
        dsimp only
        have e3 : nI (bs (fRn m) k - t) + -1 = nI (bs (fRn m) k - (t + 1)) := by
          rw [← Int32.sub_eq_add_neg]
          have := nI_pred (bs (fRn m) k - (t + 1))
          rw [show bs (fRn m) k - (t + 1) + 1 = bs (fRn m) k - t from by omega] at this
          exact this
        rw [e3]
        refine IH _ _ htS ⟨rfl, fun a h1 h2 q hq => ?_, v3⟩
        by_cases hae : a = bs (fRn m) k - t
        · rw [hae]; exact v1 q hq
        · exact v2 a (by omega) h2 q hq
    · rw [if_neg (fun q => htS (e0.mp q))]
      refine wo_some (wo_some ⟨fun i h1 h2 => (w2 i h2).trans (yf i h1), fun a ha => (congrFun (w2 11 (by decide)) a).trans (yB a ha), fun a h1 h2 => w1 a (by omega) h2⟩)
theorem fo_mem {b : Nat → Nat → Bool} : ∀ (l : List Nat) (h : Nat), fo b h l = h ∨ fo b h l ∈ l
  | [], h => Or.inl rfl
  | r :: l, h => by
    show fo b (stB b h r) l = h ∨ fo b (stB b h r) l ∈ r :: l
    rcases fo_mem (b := b) l (stB b h r) with e | e
    · rw [e]
      unfold stB
      split
      · exact Or.inr (List.mem_cons_self ..)
      · exact Or.inl rfl
    · exact Or.inr (List.mem_cons_of_mem _ e)
theorem hl_in {b : Nat → Nat → Bool} {S x : Nat} (hS : S < 64) (h : (prm (pc6 S) S).any (fun l => hl b l == x) = true) (hx : x < 6) : S.testBit x = true := by
  obtain ⟨l, h1, h2⟩ := List.any_eq_true.mp h
  rw [beq_iff_eq] at h2
  have hin := prm_in S hS
  unfold inN at hin
  have := List.all_eq_true.mp hin l h1
  rw [Bool.and_eq_true] at this
  have hall := this.2
  cases l with
  | nil => exact absurd (show (99 : Nat) = x from h2) (by omega)
  | cons r l =>
    have hm : x ∈ r :: l := by
      rw [← h2]
      rcases fo_mem (b := b) l r with e | e
      · show fo b r l ∈ r :: l
        rw [e]; exact List.mem_cons_self ..
      · exact List.mem_cons_of_mem _ e
    have := List.all_eq_true.mp hall x hm
    rw [Bool.and_eq_true] at this
    exact this.1
theorem any_congr {P Q : Nat → Bool} : ∀ {l : List Nat}, (∀ r, r ∈ l → P r = Q r) → l.any P = l.any Q
  | [], _ => rfl
  | y :: l, h => by rw [List.any_cons, List.any_cons, h y (List.mem_cons_self ..), any_congr (fun r hr => h r (List.mem_cons_of_mem _ hr))]
/-- with one r the first -/
theorem first_any {b : Nat → Nat → Bool} {f : Nat → Bool} {n x : Nat} (hn : n ≤ 6) (hx : x < n) : (List.range n).any (fun r => f r && fin b (cn f n - 1) (bs f n - (0 ||| 2 ^ r)) r x) = (prm (cn f n) (bs f n)).any (fun l => hl b l == x) := by
  have hS := bs_le hn f
  by_cases hc : cn f n = 0
  · rw [hc]
    have e1 : (prm 0 (bs f n)).any (fun l => hl b l == x) = false := by
      unfold prm
      rw [List.any_cons, List.any_nil, Bool.or_false]
      show ((99 : Nat) == x) = false
      exact beq_false_of_ne (by omega)
    rw [e1]
    have : ∀ r, r ∈ List.range n → (f r && fin b (0 - 1) (bs f n - (0 ||| 2 ^ r)) r x) = false := fun r hr => by
      rw [ps0_no hc (List.mem_range.mp hr)]
      rfl
    rw [any_congr this]
    induction List.range n with
    | nil => rfl
    | cons y l ih => rw [List.any_cons, ih]; rfl
  · have ec : cn f n = (cn f n - 1) + 1 := by omega
    conv => rhs; rw [ec]
    rw [any_s, anyU_6 hn (fun k hk => by rw [bs_bit_ge f hk]; rfl)]
    refine any_congr (fun r hr => ?_)
    have hr := List.mem_range.mp hr
    rw [bs_bit f n r hr]
    cases hf : f r with
    | false => rfl
    | true =>
      have e2 := sub_s2 (bs f n) hS 0 (by omega) (Nat.zero_and _) r (by omega) (by rw [bs_bit f n r hr, hf, Nat.zero_testBit]; rfl)
      rw [Nat.sub_zero] at e2
      rw [e2]
      rfl
theorem with0 {fav : FavT} {ab : AbsT} {σ s s' : St} {m : Nat → Int32} {n r : Nat} (hn : n ≤ 6) (hB : Btn (btB fav ab m n) n s') (hT : ∀ a, 0 < a → a ≤ bs (fRn m) n → ∀ q, q < n → s' 12 (a * 6 + q) = tbD (btB fav ab m n) n (bs (fRn m) n) a q) (hr : r < n) (hR : fRn m r = true) : q5_endsWith s' 0 (-1) (nI r) = some (nI (bs (fun x => fin (btB fav ab m n) (cn (fRn m) n - 1) (bs (fRn m) n - (0 ||| 2 ^ r)) r x) n)) := by
  have hS := bs_le hn (fRn m)
  have hb : (bs (fRn m) n).testBit r = true := by rw [bs_bit _ _ _ hr]; exact hR
  have z0 : (0 : Nat) &&& bs (fRn m) n = 0 := Nat.zero_and _
  have q3 := sub_s3 _ hS 0 (by omega) z0 r (by omega) hb
  have q4 := sub_s4 0 (by omega) r (by omega) (Nat.zero_testBit r)
  have q5 := sub_s5 0 (by omega) r (by omega) (Nat.zero_testBit r)
  have q6 := sub_s6 _ hS 0 (by omega) z0 r (by omega) hb
  have hw := with_ok (b := btB fav ab m n) (s := s') (n := n) (r := r) (a := 0) (S := bs (fRn m) n) (o := none) hn hB hr (by omega) (fun h e => by cases e) (hT _ q5 q6 r hr) (by omega)
  have htd : tbD (btB fav ab m n) n (bs (fRn m) n) (0 ||| 2 ^ r) (hA (btB fav ab m n) none r) = nI (bs (fun x => fin (btB fav ab m n) (cn (fRn m) n - 1) (bs (fRn m) n - (0 ||| 2 ^ r)) r x) n) := by
    unfold tbD
    rw [if_pos ⟨q3, (bit_in 0 (by omega) r (by omega)).1⟩, pc6_bs hn, q4, show pc6 0 = 0 from by decide]
    rfl
  rw [htd] at hw
  exact hw
theorem last_ok {fav : FavT} {ab : AbsT} {s s' : St} {m : Nat → Int32} {n : Nat} (hn : n ≤ 6) (h6 : s' 6 6 = nI n) (h7 : s' 6 7 = nI (bs (fRn m) n)) (hB : Btn (btB fav ab m n) n s') (hT : ∀ a, 0 < a → a ≤ bs (fRn m) n → ∀ q, q < n → s' 12 (a * 6 + q) = tbD (btB fav ab m n) n (bs (fRn m) n) a q) : q5_possibleLast s' = some (nI (bs (fun x => (prm (cn (fRn m) n) (bs (fRn m) n)).any (fun l => hl (btB fav ab m n) l == x)) n)) := by
  have key : Wo (q5_possibleLast s') (fun r => r = nI (bs (fun x => (List.range n).any (fun r => fRn m r && fin (btB fav ab m n) (cn (fRn m) n - 1) (bs (fRn m) n - (0 ||| 2 ^ r)) r x)) n)) := by
    unfold q5_possibleLast
    dsimp only [lt]
    rw [h6, h7]
    refine wo_bind ?_
    refine lpW2 n (fun k y q => q = nI k ∧ y = nI (bs (fun x => (List.range k).any (fun r => fRn m r && fin (btB fav ab m n) (cn (fRn m) n - 1) (bs (fRn m) n - (0 ||| 2 ^ r)) r x)) n)) ?_ fuelN 0 _ _ (Nat.zero_le _) (fuel_ok (by omega)) ⟨rfl, ?_⟩
    · rintro rec k y q hk ⟨rfl, rfl⟩ IH
      refine wo_ite (fun hlt => ?_) (fun hge => ?_)
      · have hkn : k < n := (nI_ltI (by omega) (by omega)).mp hlt
        rw [isIn_bs hn hkn, nI_1]
        cases hR : fRn m k with
        | true =>
          rw [if_pos rfl, with0 (σ := s') (s := s') hn hB hT hkn hR]
          simp only [Option.bind_some]
          rw [or_bs hn]
          refine IH _ _ hkn ⟨rfl, congrArg nI (bs_congr (fun x hx => ?_))⟩
          rw [anyU_s, hR, Bool.true_and]
        | false =>
          rw [if_neg (by decide)]
          simp only [Option.bind_some]
          refine IH _ _ hkn ⟨rfl, congrArg nI (bs_congr (fun x hx => ?_))⟩
          rw [anyU_s, hR, Bool.false_and, Bool.or_false]
      · have : k = n := by
          have : ¬ k < n := fun q => hge (nI_lt q (by omega))
          omega
        subst this
        exact wo_some (wo_some rfl)
    · have hz : ∀ k, bs (fun x => (List.range 0).any (fun r => fRn m r && fin (btB fav ab m n) (cn (fRn m) n - 1) (bs (fRn m) n - (0 ||| 2 ^ r)) r x)) k = 0 := fun k => by
        induction k with
        | zero => rfl
        | succ k ih => unfold bs; rw [ih]; rfl
      rw [hz]
      rfl
  obtain ⟨r, e, rfl⟩ := key
  rw [e]
  exact congrArg some (congrArg nI (bs_congr (fun x hx => first_any hn hx)))
theorem RR.s12 {LR : LRT} {σ s μ : St} (h : RR LR σ μ) (e : ∀ i, i ≠ 11 → i ≠ 12 → s i = σ i) : RR LR s μ := h.sC (fun i hi => e i (by unfold keepC at hi; omega) (by unfold keepC at hi; omega)) (by rw [e 1 (by decide) (by decide)]) (by rw [e 32 (by decide) (by decide)]) (by rw [e 32 (by decide) (by decide)])
theorem RR.m8 {LR : LRT} {σ μ u : St} (h : RR LR σ μ) (e : ∀ i, i ≠ 8 → u i = μ i) : RR LR σ u := h.sM (e 1 (by decide)) (e 2 (by decide)) (e 4 (by decide)) (e 5 (by decide)) (by rw [e 0 (by decide)]) (by rw [e 0 (by decide)]) (by rw [e 0 (by decide)]) (by rw [e 0 (by decide)]) (fun q => q.eq (by rw [e 0 (by decide)]) (by rw [e 0 (by decide)]) (by rw [e 0 (by decide)]))
theorem op_orders {LR : LRT} {fav : FavT} {ab : AbsT} (L : LawF LR fav ab) : Op_orders (RR LR) := by
  intro σ μ hR
  obtain ⟨n, hN, hV, hW⟩ := hR.nn
  have hn := hN.1
  have hS := bs_le hn (fRn (μ 1))
  unfold q11_orders q12_orders q11_pollNow
  dsimp only [lt]
  obtain ⟨⟨s, es, hC⟩, u, eu, hM⟩ := polls (ν := up μ 0 0 0) L hR hV hW up0_1
  have u1 : u 1 = μ 1 := (hM.2.2.2.1 1 (by decide) (by decide) (by decide)).trans up0_1
  have hRR : RR LR s u := ((hR.heldC hC).t0).heldM hM
  have hL : ∃ a b c, LR a b c (μ 1 1) (μ 1 2) (fun k => μ 1 (352 + k)) := ⟨_, _, _, hR.2.2.2.2.2⟩
  obtain ⟨s', es', f1, f2, f3⟩ := meetA_ok hn hC
  have e6 : s' 6 = s 6 := f1 6 (by decide) (by decide)
  have hlast := last_ok (s := s) hn (by rw [e6]; exact hC.1) (by rw [e6]; exact hC.2.1) f2 f3
  rw [es, eu]
  simp only [Option.bind_some]
  rw [es']
  simp only [Option.bind_some]
  rw [hlast]
  have key : Wo (loop3 (fun rec8_ (set11_ : Int32) (p12_ : Int32) (σ13_ : St) =>
  Option.bind (ag σ13_ 1 752 3) fun x18_ =>
  if p12_ < x18_ then
  Option.bind (Option.bind (if q12_isOf (σ13_ 0 21) p12_ = true then (Option.bind (q12_hasOrder σ13_ p12_) fun x30_ =>
  if x30_.1 = true then (some (true, x30_.2)) else (some (false, x30_.2))) else (some (false, σ13_))) fun t27_ =>
  if t27_.1 = true then (some (shl 1 p12_, t27_.2)) else (some ((0 : Int32), t27_.2))) fun x22_ =>
  rec8_ (set11_ ||| x22_.1) (p12_ + 1) x22_.2
  else (some (set11_, p12_, σ13_))) fuelN (0 : Int32) (0 : Int32) u) (fun y => y.1 = nI (bs (fun x => (prm (cn (fRn (μ 1)) n) (bs (fRn (μ 1)) n)).any (fun l => hl (btB fav ab (μ 1) n) l == x)) n) ∧ ∀ i, i ≠ 8 → y.2.2 i = u i) := by
    refine lpW3 n (fun k y q w => q = nI k ∧ y = nI (bs (fun x => (prm (cn (fRn (μ 1)) n) (bs (fRn (μ 1)) n)).any (fun l => hl (btB fav ab (μ 1) n) l == x)) k) ∧ ∀ i, i ≠ 8 → w i = u i) ?_ fuelN 0 _ _ _ (Nat.zero_le _) (fuel_ok (by omega)) ⟨rfl, rfl, fun _ _ => rfl⟩
    rintro rec k y q w hk ⟨rfl, rfl, wf⟩ IH
    refine wo_st ag3 ?_
    have w1 : w 1 = μ 1 := (wf 1 (by decide)).trans u1
    rw [w1, hN.2.2]
    refine wo_ite (fun hlt => ?_) (fun hge => ?_)
    · have hkn : k < n := (nI_ltI (by omega) (by omega)).mp hlt
      rw [wf 0 (by decide), hM.2.1, isOf_isIn, isIn_bs hn hkn, nI_1]
      have hb := bs_le (n := k) (by omega) (fun x => (prm (cn (fRn (μ 1)) n) (bs (fRn (μ 1)) n)).any (fun l => hl (btB fav ab (μ 1) n) l == x))
      have hb2 := bs_lt (fun x => (prm (cn (fRn (μ 1)) n) (bs (fRn (μ 1)) n)).any (fun l => hl (btB fav ab (μ 1) n) l == x)) k
      have hbs : bs (fun x => (prm (cn (fRn (μ 1)) n) (bs (fRn (μ 1)) n)).any (fun l => hl (btB fav ab (μ 1) n) l == x)) (k + 1) = bs (fun x => (prm (cn (fRn (μ 1)) n) (bs (fRn (μ 1)) n)).any (fun l => hl (btB fav ab (μ 1) n) l == x)) k + (if (prm (cn (fRn (μ 1)) n) (bs (fRn (μ 1)) n)).any (fun l => hl (btB fav ab (μ 1) n) l == k) = true then 2 ^ k else 0) := rfl
      cases hRk : fRn (μ 1) k with
      | false =>
        simp only [Bool.false_eq_true, if_false, Option.bind_some]
        rw [or_zero]
        refine IH _ _ _ hkn ⟨rfl, ?_, wf⟩
        rw [hbs, if_neg]
        · rfl
        · intro q
          have := hl_in (S := bs (fRn (μ 1)) n) hS (by rw [pc6_bs hn]; exact q) (by omega)
          rw [bs_bit _ _ _ hkn, hRk] at this
          cases this
      | true =>
        obtain ⟨⟨x, w'⟩, ex, g1, g2⟩ := hasOrder_ok L (i := k) hn hW hN.2.2 w1 hL (hM.re (wf 0 (by decide)) (wf 7 (by decide))) hkn
        dsimp only at g1 g2
        simp only [if_true]
        rw [ex]
        simp only [Option.bind_some]
        have wf' : ∀ i, i ≠ 8 → w' i = u i := fun i hi => (g1 i hi).trans (wf i hi)
        rcases g2 with ⟨rfl, l, g3, -⟩ | ⟨rfl, g3⟩
        · simp only [if_true, Option.bind_some]
          rw [or_bit k (by omega) _ hb hb2]
          refine IH _ _ _ hkn ⟨rfl, ?_, wf'⟩
          rw [hbs, if_pos]
          have : ¬ (prm (cn (fRn (μ 1)) n) (bs (fRn (μ 1)) n)).any (fun l => hl (btB fav ab (μ 1) n) l == k) = false := fun q => by
            rw [find_any.mpr q] at g3
            cases g3
          exact Bool.not_eq_false _ |>.mp this
        · simp only [Bool.false_eq_true, if_false, Option.bind_some]
          rw [or_zero]
          refine IH _ _ _ hkn ⟨rfl, ?_, wf'⟩
          rw [hbs, find_any.mp g3, if_neg (by decide)]
          rfl
    · have : k = n := by
        have : ¬ k < n := fun q => hge (nI_lt q (by omega))
        omega
      subst this
      exact wo_some ⟨rfl, wf⟩
  obtain ⟨y, ey, hy, hf⟩ := key
  rw [ey]
  exact ⟨(_, s'), (y.1, y.2.2), rfl, rfl, hy.symm, (hRR.s12 f1).m8 hf⟩

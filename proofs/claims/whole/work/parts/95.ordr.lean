/-! LAYER 2: ONE ORDER -/
theorem pre_lt {hs : List Nat} {pre post : List Nat} {r q : Nat} (h : hs = pre ++ r :: post) (hs' : hs.Pairwise (· < ·)) (hq : q ∈ hs) (hlt : q < r) : q ∈ pre := by
  subst h
  rw [List.pairwise_append] at hs'
  obtain ⟨-, h2, h3⟩ := hs'
  rcases List.mem_append.mp hq with h | h
  · exact h
  · rcases List.mem_cons.mp h with e | h
    · omega
    · have := (List.pairwise_cons.mp h2).1 q h
      omega
theorem rng_sorted : ∀ S, S < 64 → ((List.range 6).filter (fun r => S.testBit r)).Pairwise (· < ·) := by decide +kernel
/-- the first order from here on -/
theorem find_s {b : Nat → Nat → Bool} {o : Option Nat} {t S x : Nat} (hS : S < 64) : ((∀ r, r < 6 → S.testBit r = true → fin b t (wout S r) (hA b o r) x = false) ∧ (prm (t + 1) S).find? (fun l => foO b o l == x) = none) ∨ ∃ r l, r < 6 ∧ S.testBit r = true ∧ fin b t (wout S r) (hA b o r) x = true ∧ (∀ q, q < r → S.testBit q = true → fin b t (wout S q) (hA b o q) x = false) ∧ (prm t (wout S r)).find? (fun l => fo b (hA b o r) l == x) = some l ∧ (prm (t + 1) S).find? (fun l => foO b o l == x) = some (r :: l) := by
  have hany : ∀ r, (prm t (wout S r)).any (fun l => foO b o (r :: l) == x) = fin b t (wout S r) (hA b o r) x := fun r => by
    unfold fin
    congr 1
    funext l
    rw [foO_c]
  have hmem : ∀ r, r ∈ (List.range 6).filter (fun r => S.testBit r) ↔ r < 6 ∧ S.testBit r = true := fun r => by
    rw [List.mem_filter, List.mem_range]
  rw [prm_s]
  rcases find_h (S := S) (t := t) (P := fun l => foO b o l == x) ((List.range 6).filter (fun r => S.testBit r)) with ⟨h1, h2⟩ | ⟨pre, r, post, l, h1, h2, h3, h4⟩
  · exact Or.inl ⟨fun r hr hs => by rw [← hany]; exact h1 r ((hmem r).mpr ⟨hr, hs⟩), h2⟩
  · have hr : r ∈ (List.range 6).filter (fun r => S.testBit r) := by
      rw [h1]
      exact List.mem_append.mpr (Or.inr (List.mem_cons_self ..))
    obtain ⟨r6, rS⟩ := (hmem r).mp hr
    have h3' : (prm t (wout S r)).find? (fun l => fo b (hA b o r) l == x) = some l := by
      rw [← h3]
      congr 1
      funext l
      rw [foO_c]
    refine Or.inr ⟨r, l, r6, rS, ?_, fun q hq hs => ?_, h3', h4⟩
    · rw [← hany]
      refine Bool.not_eq_false _ |>.mp (fun q => ?_)
      rw [find_any.mpr q] at h3
      cases h3
    · rw [← hany]
      exact h2 q (pre_lt h1 (rng_sorted S hS) ((hmem q).mpr ⟨by omega, hs⟩) hq)
theorem towards_ok {b : Nat → Nat → Bool} {s : St} {n S a p t : Nat} {o : Option Nat} (hn : n ≤ 6) (h6 : s 6 6 = nI n) (h7 : s 6 7 = nI S) (hS : S < 64) (hSn : ∀ k, n ≤ k → S.testBit k = false) (hB : Btn b n s) (hp : p < n) (ha : a < 64) (haS : a &&& S = a) (hpc : pc6 S - pc6 a = t + 1) (ho : ∀ h, o = some h → h < n ∧ a.testBit h = true) (hT : ∀ a', 0 < a' → a' ≤ S → ∀ q, q < n → s 12 (a' * 6 + q) = tbD b n S a' q) : Wo (q5_leastTowards s (nI p) (nI a) (hI o)) (fun y => (y = -1 ∧ (prm (t + 1) (S - a)).find? (fun l => foO b o l == p) = none) ∨ ∃ r l, r < n ∧ S.testBit r = true ∧ a.testBit r = false ∧ y = nI r ∧ (prm t (S - (a ||| 2 ^ r))).find? (fun l => fo b (hA b o r) l == p) = some l ∧ (prm (t + 1) (S - a)).find? (fun l => foO b o l == p) = some (r :: l)) := by
  unfold q5_leastTowards
  dsimp only [lt]
  rw [h6, h7]
  have hle := (sub_pc S hS a ha haS).1
  have hgood : ∀ r, r < n → (if q11_isIn (nI S &&& (nI a ^^^ -1)) (nI r) = true then (Option.bind (q5_endsWith s (nI a) (hI o) (nI r)) fun x19_ => if q11_isIn x19_ (nI p) = true then (some true) else (some false)) else (some false)) = some ((S - a).testBit r && fin b t (wout (S - a) r) (hA b o r) p) := fun r hr => by
    rw [isIn_and _ _ (by omega), isIn_not _ (by omega), isIn_bit S hS r (by omega), isIn_bit a ha r (by omega), (sub_set S hS a ha haS r (by omega)).1]
    cases hg : (S.testBit r && !a.testBit r) with
    | false => rfl
    | true =>
      have hg2 := hg
      rw [Bool.and_eq_true, Bool.not_eq_true'] at hg2
      obtain ⟨q3, q4, q5, q6, q7⟩ := (sub_set S hS a ha haS r (by omega)).2 hg2.1 hg2.2
      have hlt : hA b o r < n := by
        cases o with
        | none => exact hr
        | some h =>
          have := (ho h rfl).1
          show stB b h r < n
          unfold stB
          split <;> omega
      have hw := with_ok (b := b) (s := s) (n := n) (r := r) (a := a) (S := S) (o := o) hn hB hr ha (fun h e => ⟨(ho h e).1, fun q => by have := (ho h e).2; rw [q, hg2.2] at this; cases this⟩) (hT _ (by omega) q7 _ hlt) (by omega)
      have hbit : (a ||| 2 ^ r).testBit (hA b o r) = true := by
        cases o with
        | none => exact (bit_in a ha r (by omega)).1
        | some h =>
          show (a ||| 2 ^ r).testBit (stB b h r) = true
          unfold stB
          split
          · exact (bit_in a ha r (by omega)).1
          · exact (bit_in a ha r (by omega)).2 h (by have := (ho h rfl).1; omega) (ho h rfl).2
      have htd : tbD b n S (a ||| 2 ^ r) (hA b o r) = nI (bs (fun x => fin b t (S - (a ||| 2 ^ r)) (hA b o r) x) n) := by
        unfold tbD
        rw [if_pos ⟨q4, hbit⟩, q5, show pc6 S - (pc6 a + 1) = t from by omega]
      rw [if_pos rfl, hw, htd]
      simp only [Option.bind_some]
      rw [isIn_bs hn hp, q3]
      cases fin b t (S - (a ||| 2 ^ r)) (hA b o r) p <;> rfl
  refine wo_bind (wo_mono (Q := fun y => (∃ k, y = Sum.inr k ∧ ∀ r, r < n → ((S - a).testBit r && fin b t (wout (S - a) r) (hA b o r) p) = false) ∨ ∃ r, r < n ∧ y = Sum.inl (nI r) ∧ ((S - a).testBit r && fin b t (wout (S - a) r) (hA b o r) p) = true ∧ ∀ q, q < r → ((S - a).testBit q && fin b t (wout (S - a) q) (hA b o q) p) = false) ?_ ?_)
  · refine lpW1 n (fun k r => r = nI k ∧ ∀ q, q < k → ((S - a).testBit q && fin b t (wout (S - a) q) (hA b o q) p) = false) ?_ fuelN 0 _ (Nat.zero_le _) (fuel_ok (by omega)) ⟨rfl, fun q hq => absurd hq (Nat.not_lt_zero _)⟩
    rintro rec k r hk ⟨rfl, hno⟩ IH
    refine wo_ite (fun hlt => ?_) (fun hge => ?_)
    · have hkn : k < n := (nI_ltI (by omega) (by omega)).mp hlt
      rw [hgood k hkn]
      simp only [Option.bind_some]
      cases hg : ((S - a).testBit k && fin b t (wout (S - a) k) (hA b o k) p) with
      | true =>
        rw [if_pos rfl]
        exact wo_some (Or.inr ⟨k, hkn, rfl, hg, hno⟩)
      | false =>
        rw [if_neg (by decide), nI_1]
        refine IH _ hkn ⟨rfl, fun q hq => ?_⟩
        by_cases hqk : q = k
        · subst hqk; exact hg
        · exact hno q (by omega)
    · have : k = n := by
        have : ¬ k < n := fun q => hge (nI_lt q (by omega))
        omega
      subst this
      exact wo_some (Or.inl ⟨_, rfl, hno⟩)
  · have hbn : ∀ r, r < 6 → (S - a).testBit r = true → r < n := fun r hr h => by
      rw [(sub_set S hS a ha haS r hr).1, Bool.and_eq_true] at h
      by_cases hrn : r < n
      · exact hrn
      · rw [hSn r (by omega)] at h; cases h.1
    have hf := find_s (b := b) (o := o) (t := t) (S := S - a) (x := p) (by omega)
    rintro y (⟨k, rfl, hno⟩ | ⟨r, hr, rfl, hg, hno⟩)
    · refine wo_some (Or.inl ⟨rfl, ?_⟩)
      rcases hf with ⟨-, h⟩ | ⟨r, l, r1, r2, r3, -, -, -⟩
      · exact h
      · have := hno r (hbn r r1 r2)
        rw [r2, r3] at this
        cases this
    · rw [Bool.and_eq_true] at hg
      rcases hf with ⟨h, -⟩ | ⟨r', l, r1, r2, r3, r4, r5, r6⟩
      · rw [h r (by omega) hg.1] at hg
        cases hg.2
      · have hrr : r' = r := by
          rcases Nat.lt_trichotomy r' r with h | h | h
          · have := hno r' h
            rw [r2, r3] at this
            cases this
          · exact h
          · have := r4 r h hg.1
            rw [hg.2] at this
            cases this
        subst hrr
        have hs := hg.1
        rw [(sub_set S hS a ha haS r' (by omega)).1, Bool.and_eq_true, Bool.not_eq_true'] at hs
        obtain ⟨q3, -⟩ := (sub_set S hS a ha haS r' (by omega)).2 hs.1 hs.2
        rw [q3] at r5
        exact wo_some (Or.inr ⟨r', l, hr, hs.1, hs.2, rfl, r5, r6⟩)
theorem place_ok {b : Nat → Nat → Bool} {s : St} {n S p k : Nat} (hn : n ≤ 6) (h6 : s 6 6 = nI n) (h7 : s 6 7 = nI S) (h8 : s 6 8 = nI (pc6 S)) (hS : S < 64) (hSn : ∀ k, n ≤ k → S.testBit k = false) (hB : Btn b n s) (hp : p < n) (hk : k < pc6 S) (hpn : pc6 S ≤ 6) (hT : ∀ a', 0 < a' → a' ≤ S → ∀ q, q < n → s 12 (a' * 6 + q) = tbD b n S a' q) : q5_placeInOrder s (nI p) (nI k) = some (match (prm (pc6 S) S).find? (fun l => hl b l == p) with | none => -1 | some l => nI (ofL l k)) := by
  have key : Wo (q5_placeInOrder s (nI p) (nI k)) (fun r => r = (match (prm (pc6 S) S).find? (fun l => hl b l == p) with | none => -1 | some l => nI (ofL l k))) := by
    unfold q5_placeInOrder
    dsimp only [lt]
    rw [h8, if_neg (fun q => q.elim (nI_pos (by omega)) (nI_ge hk (by omega)))]
    have z0 : (0 : Nat) &&& S = 0 := Nat.zero_and _
    have p0 : pc6 0 = 0 := by decide
    cases hf : (prm (pc6 S) S).find? (fun l => hl b l == p) with
    | none =>
      refine wo_bind ?_
      refine lpW4 0 (fun t a h c i => a = 0 ∧ h = -1 ∧ i = 0) ?_ fuelN 0 _ _ _ _ (Nat.zero_le _) (fuel_ok (by omega)) ⟨rfl, rfl, rfl⟩
      rintro rec t a h c i ht ⟨rfl, rfl, rfl⟩ IH
      rw [if_pos (show (0 : Int32) ≤ nI k from Int32.not_lt.mp (nI_pos (by omega)))]
      obtain ⟨y, ey, hy⟩ := towards_ok (b := b) (o := none) (a := 0) (t := pc6 S - 1) hn h6 h7 hS hSn hB hp (by omega) z0 (by omega) (fun h e => by cases e) hT
      have ey : q5_leastTowards s (nI p) 0 (-1) = some y := ey
      rw [show pc6 S - 1 + 1 = pc6 S from by omega, Nat.sub_zero] at hy
      have hy : (y = -1 ∧ (prm (pc6 S) S).find? (fun l => hl b l == p) = none) ∨ ∃ r l, r < n ∧ S.testBit r = true ∧ (0 : Nat).testBit r = false ∧ y = nI r ∧ (prm (pc6 S - 1) (S - (0 ||| 2 ^ r))).find? (fun l => fo b (hA b none r) l == p) = some l ∧ (prm (pc6 S) S).find? (fun l => hl b l == p) = some (r :: l) := hy
      rw [ey]
      simp only [Option.bind_some]
      rcases hy with ⟨rfl, -⟩ | ⟨r, l, -, -, -, -, -, h⟩
      · rw [if_pos rfl]
        exact wo_some (wo_some rfl)
      · rw [hf] at h
        cases h
    | some L =>
      have hlen : L.length = pc6 S := by
        have hin := prm_in S hS
        unfold inN at hin
        have := List.all_eq_true.mp hin L (List.mem_of_find?_eq_some hf)
        rw [Bool.and_eq_true, beq_iff_eq] at this
        exact this.1
      refine wo_bind ?_
      refine lpW4 (k + 1) (fun i a h c j => j = nI i ∧ ∃ (a' : Nat) (o : Option Nat) (l : List Nat), a = nI a' ∧ a' < 64 ∧ a' &&& S = a' ∧ pc6 a' = i ∧ h = hI o ∧ (∀ h, o = some h → h < n ∧ a'.testBit h = true) ∧ (prm (pc6 S - i) (S - a')).find? (fun l => foO b o l == p) = some l ∧ (∀ q, ofL l q = ofL L (i + q)) ∧ (0 < i → c = nI (ofL L (i - 1)))) ?_ fuelN 0 _ _ _ _ (Nat.zero_le _) (fuel_ok (by omega)) ⟨rfl, 0, none, L, rfl, by omega, z0, p0, rfl, (fun h e => (by cases e)), ?_, fun q => (by rw [Nat.zero_add]), fun h => (by omega)⟩
      · rintro rec i a h c j hi ⟨rfl, a', o, l, rfl, b1, b2, b3, rfl, b5, b6, b7, b8⟩ IH
        have e1 : nI i ≤ nI k ↔ i < k + 1 := by
          rw [← Int32.not_lt, nI_ltI (by omega) (by omega)]
          omega
        by_cases hik : i < k + 1
        · rw [if_pos (e1.mpr hik)]
          obtain ⟨y, ey, hy⟩ := towards_ok (b := b) (o := o) (a := a') (t := pc6 S - i - 1) hn h6 h7 hS hSn hB hp b1 b2 (by omega) b5 hT
          rw [show pc6 S - i - 1 + 1 = pc6 S - i from by omega, b6] at hy
          rw [ey]
          simp only [Option.bind_some]
          rcases hy with ⟨-, h⟩ | ⟨r, l', r1, r2, r3, rfl, r5, r6⟩
          · cases h
          · have r6 : l = r :: l' := by injection r6
            rw [if_neg (nI_m1 (by omega)), after_ok hn hB r1 (fun h e => ⟨(b5 h e).1, fun q => by have := (b5 h e).2; rw [q, r3] at this; cases this⟩)]
            simp only [Option.bind_some]
            obtain ⟨q3, q4, q5, q6, q7⟩ := (sub_set S hS a' b1 b2 r (by omega)).2 r2 r3
            rw [set_or a' b1 r (by omega), nI_1]
            have hlt : hA b o r < n := by
              cases o with
              | none => exact r1
              | some h =>
                have := (b5 h rfl).1
                show stB b h r < n
                unfold stB
                split <;> omega
            have hbit : (a' ||| 2 ^ r).testBit (hA b o r) = true := by
              cases o with
              | none => exact (bit_in a' b1 r (by omega)).1
              | some h =>
                show (a' ||| 2 ^ r).testBit (stB b h r) = true
                unfold stB
                split
                · exact (bit_in a' b1 r (by omega)).1
                · exact (bit_in a' b1 r (by omega)).2 h (by have := (b5 h rfl).1; omega) (b5 h rfl).2
            refine IH _ _ _ _ hik ⟨rfl, a' ||| 2 ^ r, some (hA b o r), l', rfl, by omega, q4, by omega, rfl, fun h e => by cases e; exact ⟨hlt, hbit⟩, ?_, fun q => ?_, fun _ => ?_⟩
            · rw [show pc6 S - (i + 1) = pc6 S - i - 1 from by omega]
              exact r5
            · have := b7 (q + 1)
              rw [r6] at this
              have this : ofL l' q = ofL L (i + (q + 1)) := this
              rw [this]
              congr 1
              omega
            · have := b7 0
              rw [r6] at this
              have this : r = ofL L (i + 0) := this
              rw [Nat.add_sub_cancel]
              exact congrArg nI this
        · have : i = k + 1 := by omega
          subst this
          rw [if_neg (fun q => hik (e1.mp q))]
          refine wo_some (wo_some ?_)
          exact b8 (by omega)
      · rw [Nat.sub_zero, Nat.sub_zero]
        exact hf
  obtain ⟨r, e, rfl⟩ := key
  exact e
theorem op_order {LR : LRT} {fav : FavT} {ab : AbsT} (L : LawF LR fav ab) : Op_order (RR LR) := by
  intro σ μ hR p x
  obtain ⟨n, hN, hV, hW⟩ := hR.nn
  have hn := hN.1
  have hS := bs_le hn (fRn (μ 1))
  unfold q11_order q12_order q11_pollNow
  dsimp only [lt]
  rcases one_cases hN p with ⟨h1, h2⟩ | ⟨i, hi, rfl, h1, h2⟩
  · rw [h1, h2]
    exact ⟨(.inl 2, σ), (0, up μ 0 0 1), rfl, by simp only [Bool.false_eq_true, not_false_eq_true, if_true, up_at, if_pos lt01, Option.bind_some], sx_thr (i := 0) (by decide) (by decide) rfl, hR.t0⟩
  rw [h1, h2]
  simp only [not_true_eq_false, if_false, Option.bind_some, up_at, if_neg lt0]
  obtain ⟨⟨s, es, hC⟩, u, eu, hM⟩ := polls (ν := up μ 0 0 0) L hR hV hW up0_1
  have u1 : u 1 = μ 1 := (hM.2.2.2.1 1 (by decide) (by decide) (by decide)).trans up0_1
  have u00 : u 0 0 = 0 := by rw [hM.2.2.2.2.1 0 (by omega), up_at]
  have hRR : RR LR s u := ((hR.heldC hC).t0).heldM hM
  have hL : ∃ a b c, LR a b c (μ 1 1) (μ 1 2) (fun k => μ 1 (352 + k)) := ⟨_, _, _, hR.2.2.2.2.2⟩
  obtain ⟨s', es', f1, f2, f3⟩ := meetA_ok hn hC
  have e6 : s' 6 = s 6 := f1 6 (by decide) (by decide)
  have hct := cn_top (P := fRn (μ 1)) n
  have hpc := pc6_bs (f := fRn (μ 1)) hn
  rw [thn_n, es, eu]
  simp only [Option.bind_some]
  rw [es']
  simp only [Option.bind_some]
  rw [hM.2.1, isOf_isIn, isIn_bs hn hi]
  obtain ⟨⟨y, u'⟩, ey, g1, g2⟩ := hasOrder_ok L (i := i) hn hW hN.2.2 u1 hL hM hi
  dsimp only at g1 g2
  have u21 : u' 0 21 = nI (bs (fRn (μ 1)) n) := by rw [g1 0 (by decide)]; exact hM.2.1
  have hRR' : RR LR s' u' := (hRR.s12 f1).m8 g1
  have u00' : u' 0 0 = 0 := by rw [g1 0 (by decide)]; exact u00
  rw [ey]
  simp only [Option.bind_some]
  rw [u21, bits_ok hS, bcount_bs hn]
  simp only [Option.bind_some]
  rcases rng_cases x (n := cn (fRn (μ 1)) n) (by omega) with ⟨q1, q2⟩ | ⟨K, hK, rfl, q1, q2⟩
  · rw [q2]
    have ec : q5_placeInOrder s' (nI i) x = some (-1) := by
      unfold q5_placeInOrder
      rw [e6, hC.2.2.1, bcount_bs hn, if_pos q1]
    rw [ec]
    cases fRn (μ 1) i with
    | false => exact ⟨(.inr (-1), s'), (-1, u), rfl, rfl, sx_ok u00, hRR.s12 f1⟩
    | true =>
      cases y with
      | false => exact ⟨(.inr (-1), s'), (-1, u'), rfl, rfl, sx_ok u00', hRR'⟩
      | true => exact ⟨(.inr (-1), s'), (-1, u'), rfl, rfl, sx_ok u00', hRR'⟩
  · rw [q2]
    have ec := place_ok (b := btB fav ab (μ 1) n) (s := s') (n := n) (S := bs (fRn (μ 1)) n) (p := i) (k := K) hn (by rw [e6]; exact hC.1) (by rw [e6]; exact hC.2.1) (by rw [e6, hC.2.2.1, bcount_bs hn, hpc]) hS (fun k hk => bs_bit_ge (fRn (μ 1)) hk) f2 hi (by rw [hpc]; exact hK) (by omega) f3
    rw [hpc] at ec
    rw [ec]
    cases hRi : fRn (μ 1) i with
    | false =>
      have hno : (prm (cn (fRn (μ 1)) n) (bs (fRn (μ 1)) n)).find? (fun l => hl (btB fav ab (μ 1) n) l == i) = none := by
        refine find_any.mpr (Bool.not_eq_true _ |>.mp (fun q => ?_))
        have := hl_in (S := bs (fRn (μ 1)) n) hS (by rw [hpc]; exact q) (by omega)
        rw [bs_bit _ _ _ hi, hRi] at this
        cases this
      rw [hno]
      exact ⟨(.inr (-1), s'), (-1, u), rfl, rfl, sx_ok u00, hRR.s12 f1⟩
    | true =>
      rcases g2 with ⟨rfl, l, g3, g4⟩ | ⟨rfl, g3⟩
      · rw [g3]
        simp only [if_true, Option.bind_some]
        rw [ag_nI (k := K) rfl (by omega) (by decide), g4 K hK]
        exact ⟨(.inr (nI (ofL l K)), s'), (nI (ofL l K), u'), rfl, rfl, sx_ok u00', hRR'⟩
      · rw [g3]
        exact ⟨(.inr (-1), s'), (-1, u'), rfl, rfl, sx_ok u00', hRR'⟩

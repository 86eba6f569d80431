/-! LAYER 2: THE FIRST ORDER BY WHICH ONE HAS IT -/
def stB (b : Nat → Nat → Bool) (h r : Nat) : Nat := if b r h = true then r else h
def fo (b : Nat → Nat → Bool) : Nat → List Nat → Nat
  | h, [] => h
  | h, r :: l => fo b (stB b h r) l
def hl (b : Nat → Nat → Bool) : List Nat → Nat
  | [] => 99
  | r :: l => fo b r l
def gF (b : Nat → Nat → Bool) (h : Nat) (g : Nat → Nat) : Nat → Nat
  | 0 => h
  | t + 1 => stB b (gF b h g t) (g t)
theorem gF_s {b : Nat → Nat → Bool} {h : Nat} {g : Nat → Nat} {t : Nat} : gF b h g (t + 1) = stB b (gF b h g t) (g t) := rfl
theorem gF_sh {b : Nat → Nat → Bool} {h : Nat} {g : Nat → Nat} : ∀ t, gF b h g (t + 1) = gF b (stB b h (g 0)) (fun k => g (k + 1)) t
  | 0 => rfl
  | t + 1 => by rw [gF_s, gF_sh t, gF_s]
theorem gF_fo {b : Nat → Nat → Bool} : ∀ (l : List Nat) (h : Nat), gF b h (ofL l) l.length = fo b h l
  | [], h => rfl
  | a :: l, h => by
    show gF b h (ofL (a :: l)) (l.length + 1) = _
    rw [gF_sh]
    exact gF_fo l (stB b h a)
theorem gF_lt {b : Nat → Nat → Bool} {h M : Nat} {g : Nat → Nat} (h1 : h < M) : ∀ t, (∀ k, k < t → g k < M) → gF b h g t < M
  | 0, _ => h1
  | t + 1, h2 => by
    have := gF_lt (b := b) h1 t (fun k hk => h2 k (by omega))
    have := h2 t (by omega)
    rw [gF_s]
    unfold stB
    split <;> assumption
theorem lw_lt6 : ∀ x, x < 64 → lw x < 6 := by decide +kernel
theorem lf_le {S : Nat} : ∀ i, lfN S i ≤ S
  | 0 => Nat.le_refl _
  | i + 1 => Nat.le_trans (wout_le _ _) (lf_le i)
theorem pc6_bs {f : Nat → Bool} {n : Nat} (hn : n ≤ 6) : pc6 (bs f n) = cn f n := by
  unfold pc6
  have e := cn_stop (P := fun j => (bs f n).testBit j) (a := n) (b := 6 - n) (fun k hk => bs_bit_ge f hk)
  rw [show n + (6 - n) = 6 from by omega] at e
  rw [e]
  exact cn_congr (fun k hk => bs_bit f n k hk)
theorem ofL_in {l : List Nat} {P : Nat → Prop} (h : ∀ r, r ∈ l → P r) {k : Nat} (hk : k < l.length) : P (ofL l k) := by
  show P ((l[k]?).getD 0)
  rw [List.getElem?_eq_getElem hk]
  exact h _ (List.getElem_mem hk)
theorem hasOrder_ok {LR : LRT} {fav : FavT} {ab : AbsT} (L : LawF LR fav ab) {ν u : St} {m : Nat → Int32} {n i : Nat} (hn : n ≤ 6) (hW : WFm m n) (h3 : m 3 = nI n) (hu : u 1 = m) (hL : ∃ a b c, LR a b c (m 1) (m 2) (fun k => m (352 + k))) (hM : HeldM fav ab ν u m n) (hi : i < n) : Wo (q12_hasOrder u (nI i)) (fun r => (∀ j, j ≠ 8 → r.2 j = u j) ∧ ((r.1 = true ∧ ∃ l, List.find? (fun l => hl (btB fav ab m n) l == i) (prm (cn (fRn m) n) (bs (fRn m) n)) = some l ∧ ∀ k, k < cn (fRn m) n → r.2 8 k = nI (ofL l k)) ∨ (r.1 = false ∧ List.find? (fun l => hl (btB fav ab m n) l == i) (prm (cn (fRn m) n) (bs (fRn m) n)) = none))) := by
  unfold q12_hasOrder
  dsimp only [lt]
  have hS := bs_le hn (fRn m)
  have hpc := pc6_bs (f := fRn m) hn
  have hc6 := cn_top (P := fRn m) n
  rw [hM.2.1, bits_ok hS, bcount_bs hn]
  simp only [Option.bind_some]
  generalize hSd : bs (fRn m) n = S at hS hpc
  generalize hcd : cn (fRn m) n = c at hpc hc6
  have hhd := prm_hd S hS
  have hin := prm_in S hS
  have hlen := prm_len S hS
  have hch := prm_ch S hS
  unfold hdN at hhd
  unfold inN at hin
  rw [hpc] at hhd hin hlen hch
  generalize hLd : prm c S = Ls at hhd hin hlen hch
  cases Ls with
  | nil => cases hhd
  | cons l0 Lr =>
    have hhd : (List.range c).all (fun i => decide (0 < lfN S i) && (ofL l0 i == lw (lfN S i))) = true := hhd
    have h0 : ∀ k, k < c → 0 < lfN S k ∧ ofL l0 k = lw (lfN S k) := fun k hk => by
      have := List.all_eq_true.mp hhd k (List.mem_range.mpr hk)
      rw [Bool.and_eq_true, decide_eq_true_eq, beq_iff_eq] at this
      exact this
    have hv : ∀ l, l ∈ l0 :: Lr → l.length = c ∧ ∀ r, r ∈ l → r < n := fun l hl => by
      have := List.all_eq_true.mp hin l hl
      rw [Bool.and_eq_true, beq_iff_eq] at this
      refine ⟨this.1, fun r hr => ?_⟩
      have := List.all_eq_true.mp this.2 r hr
      rw [Bool.and_eq_true, decide_eq_true_eq] at this
      by_cases hrn : r < n
      · exact hrn
      · rw [← hSd, bs_bit_ge (n := n) (fRn m) (by omega)] at this
        cases this.1
    refine wo_bind (wo_mono (Q := fun y => (∀ k, k < c → y.2.2 8 k = nI (ofL l0 k)) ∧ ∀ j, j ≠ 8 → y.2.2 j = u j) ?_ ?_)
    · refine lpW3 c (fun k a q w => q = nI k ∧ a = nI (lfN S k) ∧ (∀ j, j < k → w 8 j = nI (ofL l0 j)) ∧ ∀ j, j ≠ 8 → w j = u j) ?_ fuelN 0 _ _ _ (Nat.zero_le _) (fuel_ok (by omega)) ⟨rfl, rfl, fun j hj => absurd hj (Nat.not_lt_zero _), fun _ _ => rfl⟩
      rintro rec k a q w hk ⟨rfl, rfl, w1, w2⟩ IH
      refine wo_ite (fun hlt => ?_) (fun hge => ?_)
      · have hkc : k < c := (nI_ltI (by omega) (by omega)).mp hlt
        obtain ⟨p1, p2⟩ := h0 k hkc
        have hlf := lf_le (S := S) k
        have hlw : lw (lfN S k) < 6 := lw_lt6 _ (by omega)
        refine wo_st (lowest_ok _ (by omega) p1) ?_
        refine wo_st (sa_nI (k := k) rfl (by omega) (by decide)) ?_
        refine wo_st (ag_nI (k := k) rfl (by omega) (by decide)) ?_
        rw [up_at, nI_1]
        have hwo := wout_ok (lfN S k) (by omega) (lw (lfN S k)) hlw
        unfold q11_without at hwo
        rw [hwo]
        refine IH _ _ _ hkc ⟨rfl, rfl, fun j hj => ?_, fun j hj => by rw [up_pl hj]; exact w2 j hj⟩
        by_cases hjk : j = k
        · subst hjk; rw [up_at, p2]
        · rw [up_off hjk]; exact w1 j (by omega)
      · have : k = c := by
          have : ¬ k < c := fun q => hge (nI_lt q (by omega))
          omega
        subst this
        exact wo_some ⟨w1, w2⟩
    · rintro ⟨y1, y2, y⟩ ⟨ya, yf⟩
      dsimp only at ya yf ⊢
      have e0 : (0 : Int32) < nI c ↔ 0 < c := nI_ltI (a := 0) (by omega) (by omega)
      by_cases hc0 : c = 0
      · subst hc0
        rw [decide_eq_false (fun q => by have := e0.mp q; omega)]
        have hl0 : l0 = [] := List.length_eq_zero_iff.mp (hv l0 (List.mem_cons_self ..)).1
        have hpr : l0 :: Lr = [[]] := by rw [← hLd]; rfl
        refine wo_bind ?_
        refine lpW2 0 (fun t a w => a = false ∧ w = y) ?_ fuelN 0 _ _ (Nat.zero_le _) (fuel_ok (by omega)) ⟨rfl, rfl⟩
        rintro rec t a w ht ⟨rfl, rfl⟩ IH
        rw [if_neg (by decide)]
        refine wo_some (wo_some ⟨yf, Or.inr ⟨rfl, ?_⟩⟩)
        rw [hpr]
        have : (hl (btB fav ab m n) [] == i) = false := by
          show ((99 : Nat) == i) = false
          exact beq_false_of_ne (by omega)
        rw [List.find?_cons, this]
        rfl
      · have hcp : 0 < c := by omega
        have hSp : 0 < S := by
          have := (h0 0 hcp).1
          exact this
        rw [decide_eq_true (e0.mpr hcp)]
        have hch := hch hSp
        refine wo_bind ?_
        refine lpW2 (l0 :: Lr).length (fun t a w => ∃ Ks : List (List Nat), Ks.length + t = (l0 :: Lr).length ∧ List.find? (fun l => hl (btB fav ab m n) l == i) (l0 :: Lr) = List.find? (fun l => hl (btB fav ab m n) l == i) Ks ∧ chP c Ks = true ∧ (∀ l, l ∈ Ks → l.length = c ∧ ∀ r, r ∈ l → r < n) ∧ ((Ks = [] ∧ a = false) ∨ ∃ l r, Ks = l :: r ∧ a = true ∧ ∀ k, k < c → w 8 k = nI (ofL l k)) ∧ ∀ j, j ≠ 8 → w j = u j) ?_ fuelN 0 _ _ (Nat.zero_le _) (fuel_ok (by omega)) ⟨l0 :: Lr, by omega, rfl, hch, hv, Or.inr ⟨l0, Lr, rfl, rfl, ya⟩, yf⟩
        rintro rec t a w ht ⟨Ks, k1, k2, k3, k4, k5, wf⟩ IH
        rcases k5 with ⟨rfl, rfl⟩ | ⟨l, r, rfl, rfl, wl⟩
        · rw [if_neg (by decide)]
          exact wo_some (wo_some ⟨wf, Or.inr ⟨rfl, k2⟩⟩)
        · rw [if_pos rfl]
          have k1 : r.length + 1 + t = (l0 :: Lr).length := k1
          obtain ⟨ll, lr⟩ := k4 l (List.mem_cons_self ..)
          have hlt : ∀ k, k < c → ofL l k < n := fun k hk => ofL_in lr (by omega)
          have hagw : ∀ k, k < c → ag w 8 7 (nI k) = some (nI (ofL l k)) := fun k hk => by rw [ag_nI (k := k) rfl (by omega) (by decide), wl k hk]
          have hMw : HeldM fav ab w w m n := hM.re (wf 0 (by decide)) (wf 7 (by decide))
          have w1 : w 1 = m := (wf 1 (by decide)).trans hu
          refine wo_st (hagw 0 hcp) ?_
          obtain ⟨x0, l', rfl⟩ : ∃ x l', l = x :: l' := by
            cases l with
            | nil => exact absurd ll (by show ¬ 0 = c; omega)
            | cons x l' => exact ⟨x, l', rfl⟩
          have ll' : l'.length + 1 = c := ll
          have hl_lt : ∀ t, t ≤ c - 1 → gF (btB fav ab m n) x0 (ofL l') t < n := fun t ht => gF_lt (hlt 0 hcp) t (fun k hk => hlt (k + 1) (by omega))
          have hval : hl (btB fav ab m n) (x0 :: l') = gF (btB fav ab m n) x0 (ofL l') (c - 1) := by
            show fo _ x0 l' = _
            rw [← gF_fo, show l'.length = c - 1 from by omega]
          refine wo_bind (wo_mono (Q := fun y => y.1 = nI (hl (btB fav ab m n) (x0 :: l'))) ?_ ?_)
          · rw [hval]
            refine lpW2 (c - 1) (fun t a q => q = nI (t + 1) ∧ a = nI (gF (btB fav ab m n) x0 (ofL l') t)) ?_ fuelN 0 _ _ (Nat.zero_le _) (fuel_ok (by omega)) ⟨rfl, rfl⟩
            rintro rec2 t a q ht2 ⟨rfl, rfl⟩ IH2
            refine wo_ite (fun hlt2 => ?_) (fun hge2 => ?_)
            · have htc : t + 1 < c := (nI_ltI (by omega) (by omega)).mp hlt2
              have hg := hl_lt t (by omega)
              have hx := hlt (t + 1) htc
              rw [hagw (t + 1) htc]
              simp only [Option.bind_some]
              rw [beat12 L hn hW h3 w1 hL hMw hx hg]
              simp only [Option.bind_some]
              have es := gF_s (b := btB fav ab m n) (h := x0) (g := ofL l') (t := t)
              unfold stB at es
              have eo : ofL (x0 :: l') (t + 1) = ofL l' t := rfl
              rw [eo]
              cases hb : btB fav ab m n (ofL l' t) (gF (btB fav ab m n) x0 (ofL l') t) with
              | true =>
                rw [hb, if_pos rfl] at es
                simp only [if_true, Option.bind_some]
                rw [nI_1]
                exact IH2 _ _ (by omega) ⟨rfl, by rw [es]⟩
              | false =>
                rw [hb, if_neg (by decide)] at es
                simp only [Bool.false_eq_true, if_false, Option.bind_some]
                rw [nI_1]
                exact IH2 _ _ (by omega) ⟨rfl, by rw [es]⟩
            · have : t = c - 1 := by
                have : ¬ t + 1 < c := fun q => hge2 (nI_lt q (by omega))
                omega
              subst this
              exact wo_some rfl
          · rintro ⟨z1, z2⟩ hz
            dsimp only at hz ⊢
            subst hz
            have hvl : hl (btB fav ab m n) (x0 :: l') < n := by rw [hval]; exact hl_lt _ (Nat.le_refl _)
            have e1 : nI (hl (btB fav ab m n) (x0 :: l')) = nI i ↔ hl (btB fav ab m n) (x0 :: l') = i := nI_eq (by omega) (by omega)
            by_cases hvi : hl (btB fav ab m n) (x0 :: l') = i
            · rw [if_pos (e1.mpr hvi)]
              refine wo_some (wo_some ⟨wf, Or.inl ⟨rfl, x0 :: l', ?_, wl⟩⟩)
              rw [k2, List.find?_cons, beq_iff_eq.mpr hvi]
            · rw [if_neg (fun q => hvi (e1.mp q))]
              have hf : List.find? (fun l => hl (btB fav ab m n) l == i) ((x0 :: l') :: r) = List.find? (fun l => hl (btB fav ab m n) l == i) r := by
                rw [List.find?_cons, beq_false_of_ne hvi]
              obtain ⟨⟨q, w'⟩, eq, f1, f2⟩ := next_ok (w := w) (c := c) (l := ofL (x0 :: l')) (by omega) (by omega) (fun k hk => Nat.lt_of_lt_of_le (hlt k hk) hn) wl
              refine wo_st eq ?_
              have wf' : ∀ j, j ≠ 8 → w' j = u j := fun j hj => (f1 j hj).trans (wf j hj)
              refine IH _ _ (by omega) ⟨r, by omega, by rw [k2, hf], ?_, fun l hl => k4 l (List.mem_cons_of_mem _ hl), ?_, wf'⟩
              · cases r with
                | nil => rfl
                | cons l2 r2 =>
                  unfold chP at k3
                  rw [Bool.and_eq_true] at k3
                  exact k3.2
              · cases r with
                | nil =>
                  have k3 : (nxN c (ofL (x0 :: l'))).isNone = true := k3
                  rcases f2 with ⟨-, g2, -⟩ | ⟨l2, g1, -, -⟩
                  · exact Or.inl ⟨rfl, g2⟩
                  · rw [g1] at k3; cases k3
                | cons l2 r2 =>
                  unfold chP at k3
                  rw [Bool.and_eq_true] at k3
                  rcases f2 with ⟨g1, -, -⟩ | ⟨l3, g1, g2, g3⟩
                  · have k3 := k3.1
                    rw [g1] at k3
                    cases k3
                  · refine Or.inr ⟨l2, r2, rfl, g2, fun k hk => ?_⟩
                    have k3 := k3.1
                    rw [g1] at k3
                    have k3 : eqL c l3 l2 = true := k3
                    unfold eqL at k3
                    have := List.all_eq_true.mp k3 k (List.mem_range.mpr hk)
                    rw [beq_iff_eq] at this
                    rw [g3 k hk, this]

/-! LAYER 2: THE LAST LOAF, BOTH SIDES -/
theorem had_in {x : Int32} (h : inR x 999) : inR (imin 999 (x + 1)) 999 := by
  obtain ⟨a, ha, rfl⟩ := h
  rw [nI_1, show (999 : Int32) = nI 999 from rfl, imin_nI (by omega) (by omega)]
  exact inR_nI (by omega)
theorem run_in {x : Int32} (h : inR x 99) : inR (imin 99 (x + 1)) 99 := by
  obtain ⟨a, ha, rfl⟩ := h
  rw [nI_1, show (99 : Int32) = nI 99 from rfl, imin_nI (by omega) (by omega)]
  exact inR_nI (by omega)
theorem loaf_ok {LR : LRT} {fav : FavT} {ab : AbsT} (L : LawF LR fav ab) {v n : Nat} {σ μ : St} (hv : v = 44 ∨ v = 54) (h : Wk v n σ μ) (hL : LR (σ 32 3) (σ 32 4) (σ 33) (μ 1 1) (μ 1 2) (fun k => μ 1 (352 + k))) : R2 (q0_giveLastLoaf σ v) (q12_lastLoaf μ) (fun a b => Wk v n a b ∧ Fw v σ μ a b ∧ a v 10 = σ v 10) := by
  have hn := h.1.1.1
  have h3 : μ 1 3 = nI n := h.1.1.2.2
  have e11 : σ v 11 = μ 1 5 := h.1.2.2.2.2.2.1.1
  have e12 : σ v 12 = μ 1 4 := h.1.2.2.2.2.2.1.2.1
  have e13 : σ v 13 = μ 1 6 := h.1.2.2.2.2.2.1.2.2.1
  have hfl := h.2.2.2.2.1
  unfold q0_giveLastLoaf q12_lastLoaf
  dsimp only [lt]
  refine r2_bind (r2_mono (Q := fun y z => y.1 = z.1 ∧ (∀ i, i < 6 ∨ 12 < i → i ≠ 32 → i ≠ 34 → i ≠ 35 → y.2 i = σ i) ∧ (∀ k, k ≠ 5 → k ≠ 6 → y.2 32 k = σ 32 k) ∧ (∀ i, i ≠ 0 → i ≠ 1 → i ≠ 6 → i ≠ 7 → z.2 i = μ i) ∧ ((∀ k, k < 9 ∨ 21 < k ∨ k = 12 → z.2 0 k = μ 0 k) ∧ (RFl μ → RFl z.2)) ∧ ((y.1 = -1 ∧ z.2 1 = μ 1) ∨ ∃ i, i < n ∧ y.1 = nI i ∧ ¬ μ 1 5 = 0 ∧ (∃ τ, HeldC fav ab τ y.2 (μ 1) n) ∧ ∃ u : St, u 1 = mu (μ 1) 5 (μ 1 5 - 1) ∧ q12_logs u 0 (nI i) (nI (cn (vtB fav ab (μ 1) (fRn (μ 1)) n i 0) n)) = some z.2)) ?_ ?_)
  · rw [e11, ag_m (μ := μ) (j := 5) (k := 5) rfl (by decide)]
    simp only [Option.bind_some]
    by_cases h0 : μ 1 5 = 0
    · rw [if_neg (fun q => (inR_pos (by decide) hfl).mp q h0), if_neg (fun q => (inR_pos (by decide) hfl).mp q h0)]
      simp only [Option.bind_some, Bool.false_eq_true, if_false]
      exact r2_some ⟨rfl, fun _ _ _ _ _ => rfl, fun _ _ _ => rfl, fun _ _ _ _ _ => rfl, ⟨fun _ _ => rfl, id⟩, Or.inl ⟨rfl, rfl⟩⟩
    · rw [if_pos ((inR_pos (by decide) hfl).mpr h0), if_pos ((inR_pos (by decide) hfl).mpr h0), those3 h3 hn h.2, those4 h3 hn h.2]
      simp only [Option.bind_some]
      rw [run_bs hn]
      obtain ⟨s, es, hC⟩ := hold_ok L hv h.1 h.2 hL
      obtain ⟨u, eu, hM⟩ := looks_ok L (ν := μ) rfl h3 hn h.2 ⟨_, _, _, hL⟩
      have u1 : u 1 = μ 1 := hM.2.2.2.1 1 (by decide) (by decide) (by decide)
      obtain ⟨W, hW, eW⟩ := h.2.2.2.2.2.2.1
      obtain ⟨x, s', x1, x2, x3, x4⟩ := winnerBy_ok L (w := W) hn h.2 h3 u1 ⟨_, _, _, hL⟩ hC hM (by omega)
      have s13 : s v 13 = nI W := by rw [hC.2.2.2.2.2.1 v (by omega) (by omega) (by omega) (by omega), e13]; exact eW
      have fr : (∀ i, i < 6 ∨ 12 < i → i ≠ 32 → i ≠ 34 → i ≠ 35 → s' i = σ i) := fun i h1 h2 h3 h4 => by rw [x4 i (by omega)]; exact hC.2.2.2.2.2.1 i (by omega) h2 h3 h4
      have fr2 : ∀ k, k ≠ 5 → k ≠ 6 → s' 32 k = σ 32 k := fun k h1 h2 => by rw [x4 32 (by decide)]; exact hC.2.2.2.2.2.2 k h1 h2
      rw [es]
      simp only [Option.bind_some]
      rw [s13, x1]
      simp only [Option.bind_some]
      have hrn : (fun p => fS (μ 1) p && !fB (μ 1) p) = fRn (μ 1) := rfl
      rw [hrn]
      by_cases hr : bs (fRn (μ 1)) n = 0
      · have hx : x = -1 := by
          rcases x3 with ⟨hx, -⟩ | ⟨i, hi, hRi, -⟩
          · exact hx
          · have := bs_pos hi hRi
            omega
        subst hx
        rw [hr, if_neg (not_not_intro (show nI 0 = 0 by decide))]
        simp only [Option.bind_some, Bool.false_eq_true, if_false]
        exact r2_some ⟨rfl, fr, fr2, fun _ _ _ _ _ => rfl, ⟨fun _ _ => rfl, id⟩, Or.inl ⟨rfl, rfl⟩⟩
      · have hbl := bs_le hn (fRn (μ 1))
        rw [if_pos (fun q => hr ((nI_0i (by omega)).mp q))]
        simp only [Option.bind_some, if_true]
        rw [eu]
        simp only [Option.bind_some]
        rw [ag_m (μ := u) (j := 6) (k := 6) rfl (by decide), u1, eW]
        simp only [Option.bind_some]
        rw [x2]
        simp only [Option.bind_some]
        rw [ag_m (μ := u) (j := 5) (k := 5) rfl (by decide)]
        simp only [Option.bind_some]
        rw [sa_nI (j := 5) (k := 5) rfl (by decide) (by decide)]
        simp only [Option.bind_some]
        rcases x3 with ⟨-, hno⟩ | ⟨i, hi, hRi, rfl⟩
        · exfalso
          have hb0 : bs (fRn (μ 1)) n = bs (fun _ => false) n := bs_congr hno
          have hz : ∀ k, bs (fun _ => false) k = 0 := fun k => by
            induction k with
            | zero => rfl
            | succ k ih => unfold bs; rw [ih]; rfl
          exact hr (hb0.trans (hz n))
        · have ev : q12_votesAt (up u 1 5 (u 1 5 - 1)) (nI i) 0 (up u 1 5 (u 1 5 - 1) 0 21) = some (nI (cn (vtB fav ab (μ 1) (fRn (μ 1)) n i 0) n)) := by
            rw [votesRow (u := u) (up_pl (by decide)) (up_pl (by decide)) (up_off (by decide)), up_pl (by decide), hM.2.1]
            exact votesAt_ok L 0 hn h.2 h3 u1 ⟨_, _, _, hL⟩ hM hi
          rw [ev]
          simp only [Option.bind_some]
          obtain ⟨Lg, g, hLg, hg, l3, l4, l5, l6⟩ := h.1.2.2.2.2.2.2.2
          have uu : up u 1 5 (u 1 5 - 1) 1 = mu (μ 1) 5 (μ 1 5 - 1) := by rw [up_mu, u1]
          obtain ⟨z, ez, z1, z2, z3, z4⟩ := logM (z := up u 1 5 (u 1 5 - 1)) (a := 0) (b := nI i) (c := nI (cn (vtB fav ab (μ 1) (fRn (μ 1)) n i 0) n)) hLg (by rw [uu, mu_ne (by decide)]; exact l5)
          rw [ez]
          simp only [Option.bind_some]
          refine r2_some ⟨rfl, fr, fr2, fun j h0 h1 h6 h7 => ?_, ⟨fun k hk => ?_, fun q => (hM.2.2.2.2.2 q).eq ?_ ?_ ?_⟩, Or.inr ⟨i, hi, rfl, h0, ⟨_, hC.re x4⟩, _, uu, ez⟩⟩
          · dsimp only; rw [z4 j h1, up_pl h1]; exact hM.2.2.2.1 j h0 h6 h7
          · dsimp only; rw [z4 0 (by decide), up_pl (by decide)]; exact hM.2.2.2.2.1 k (by omega)
          · dsimp only; rw [z4 0 (by decide), up_pl (by decide)]
          · dsimp only; rw [z4 0 (by decide), up_pl (by decide)]
          · dsimp only; rw [z4 0 (by decide), up_pl (by decide)]
  · rintro ⟨x, s⟩ ⟨x', z⟩ ⟨exx, sf, sf2, zf, zf2, hcase⟩
    dsimp only at exx sf sf2 zf zf2 hcase ⊢
    subst exx
    have hVs : RVd (vd s v) (μ 1) n := h.1.mv (fun j hj => sf _ (by omega) (by omega) (by omega) (by omega))
    have sv : s v = σ v := sf v (by omega) (by omega) (by omega) (by omega)
    have s8 : s (v + 8) = σ (v + 8) := sf _ (by omega) (by omega) (by omega) (by omega)
    have s9 : s (v + 9) = σ (v + 9) := sf _ (by omega) (by omega) (by omega) (by omega)
    obtain ⟨Lg, g, hLg, hg, l3, l4, l5, l6⟩ := h.1.2.2.2.2.2.2.2
    have l6 : ∀ a c, a < Lg → c < 4 → σ (v + 9) (4 * ((g + 59 - a) % 60) + c) = μ 1 (112 + 4 * a + c) := l6
    have hx : x = -1 ∨ ∃ i, i < n ∧ x = nI i ∧ ∃ τ, HeldC fav ab τ s (μ 1) n := by
      rcases hcase with ⟨h1, -⟩ | ⟨i, h1, h2, -, h4, -⟩
      · exact Or.inl h1
      · exact Or.inr ⟨i, h1, h2, h4⟩
    have kz : ∀ k, k < 112 ∨ 352 ≤ k → k ≠ 8 → k ≠ 5 → z 1 k = μ 1 k := by
      rcases hcase with ⟨-, h2⟩ | ⟨i, -, -, -, -, u, hu, ez⟩
      · intro k _ _ _; rw [h2]
      · obtain ⟨z', ez', -, -, z3, -⟩ := logM (z := u) (a := 0) (b := nI i) (c := nI (cn (vtB fav ab (μ 1) (fRn (μ 1)) n i 0) n)) hLg (by rw [hu, mu_ne (by decide)]; exact l5)
        rw [ez] at ez'
        cases ez'
        intro k h1 h8 h5
        rw [z3 k h1 h8, hu, mu_ne h5]
    refine r2_of (loafC (fav := fav) (ab := ab) hv hVs hx) (loafM (m := μ 1) (u := z) (x := x) hn h.2 h3 (by rw [kz 3 (by omega) (by omega) (by omega)]; exact h3) (fun q hq j hj => kz _ (by omega) (by omega) (by omega))) (fun a b ha hb => ?_)
    obtain ⟨c, hc, a1, a2, a3, a4, a5, a6⟩ := ha
    obtain ⟨b1, b2, b3⟩ := hb
    have kb : ∀ k, k < 112 ∨ 352 ≤ k → k ≠ 8 → k ≠ 5 → (∀ q, q < n → k ≠ 14 + 7 * q ∧ k ≠ 14 + 7 * q + 5 ∧ k ≠ 14 + 7 * q + 6) → b 1 k = μ 1 k := fun k h1 h2 h3 h4 => by rw [b2 k h4]; exact kz k h1 h2 h3
    have key : (a v 11 = b 1 5 ∧ inR (b 1 5) 9999) ∧ RLe (vd a v) (b 1) := by
      rcases hcase with ⟨rfl, hz⟩ | ⟨i, hi, rfl, h5, -, u, hu, ez⟩
      · rcases a5 with ⟨-, p1, p2, p3⟩ | ⟨p, -⟩
        · refine ⟨⟨?_, ?_⟩, Lg, g, hLg, hg, ?_, ?_, ?_, fun i j hi hj => ?_⟩
          · rw [p1, sv, b2 5 (fun q hq => by omega), hz]; exact e11
          · rw [b2 5 (fun q hq => by omega), hz]; exact hfl
          · show a (v + 8) 1 = _; rw [p2, s8]; exact l3
          · show a (v + 8) 2 = _; rw [p2, s8]; exact l4
          · rw [b2 8 (fun q hq => by omega), hz]; exact l5
          · show a (v + 9) _ = _
            rw [p3, s9, b2 _ (fun q hq => by omega), hz]; exact l6 i j hi hj
        · exact absurd rfl p
      · rcases a5 with ⟨p, -⟩ | ⟨-, p1, w, w8, w9, ew⟩
        · exact absurd p (nI_m1 (by omega))
        · have hcc := hc i hi rfl
          subst hcc
          obtain ⟨z', ez', z1, z2, z3, z4⟩ := logM (z := u) (a := 0) (b := nI i) (c := nI (cn (vtB fav ab (μ 1) (fRn (μ 1)) n i 0) n)) hLg (by rw [hu, mu_ne (by decide)]; exact l5)
          rw [ez] at ez'
          cases ez'
          obtain ⟨a', ea', c1, c2, c3, c4⟩ := logC (w := w) (t := v + 8) (wk := s v 12) (a := 0) (b := nI i) (c := nI (cn (vtB fav ab (μ 1) (fRn (μ 1)) n i 0) n)) hg hLg (by rw [w8, s8]; exact l4) (by rw [w8, s8]; exact l3)
          rw [ew] at ea'
          cases ea'
          have e4 : u 1 4 = s v 12 := by rw [hu, mu_ne (by decide), sv]; exact e12.symm
          have eb : ∀ k, 112 ≤ k → k < 352 → b 1 k = z 1 k := fun k h1 h2 => b2 k (fun q hq => by omega)
          refine ⟨⟨?_, ?_⟩, logR (d := vd w v) (d' := vd a v) (m := u 1) (m' := b 1) hg hLg (fun i j hi hj => ?_) c1 c2 c3 ⟨?_, ?_, ?_, ?_, fun k h1 h2 => ?_⟩ ?_⟩
          · rw [p1, sv, b2 5 (fun q hq => by omega), z3 5 (by omega) (by omega), hu, mu_eq, e11]
          · rw [b2 5 (fun q hq => by omega), z3 5 (by omega) (by omega), hu, mu_eq]; exact inR_less (by decide) hfl h5
          · show w (v + 9) _ = _
            rw [w9, s9, hu, mu_ne (by omega)]; exact l6 i j hi hj
          · rw [eb _ (by omega) (by omega), z1.1, e4]
          · rw [eb _ (by omega) (by omega), z1.2.1]
          · rw [eb _ (by omega) (by omega), z1.2.2.1]
          · rw [eb _ (by omega) (by omega), z1.2.2.2.1]
          · rw [eb _ (by omega) (by omega), z1.2.2.2.2 k h1 h2]
          · rw [b2 8 (fun q hq => by omega), z2]
    obtain ⟨⟨kf, kfi⟩, kl⟩ := key
    obtain ⟨⟨q1, q2, q3⟩, r1, ⟨r2, r3⟩, r4, r5, ⟨n1, n2, n3, n4, n5, n6⟩, ⟨x1, x2⟩, -⟩ := hVs
    have ad : ∀ j, j = 2 ∨ j = 3 ∨ j = 6 ∨ j = 7 → a (v + j) = s (v + j) := a3
    have fSe : ∀ p, p < n → fS (b 1) p = fS (μ 1) p := fun p hp => by unfold fS; rw [kb _ (by omega) (by omega) (by omega) (fun q hq => by omega)]
    have fBe : ∀ p, p < n → fB (b 1) p = fB (μ 1) p := fun p hp => by unfold fB; rw [kb _ (by omega) (by omega) (by omega) (fun q hq => by omega)]
    refine ⟨⟨⟨⟨hn, ?_, ?_⟩, fun p hp => ⟨?_, ?_, ?_, ?_, ?_⟩, ⟨?_, ?_⟩, fun p o hp ho hne => ?_, fun q hq => ?_, ⟨kf, ?_, ?_, ?_, ?_, ?_⟩, ⟨fun p h1 h2 => ⟨?_, ?_, ?_⟩, fun p o h1 h2 h3 => ?_⟩, kl⟩, ?_⟩, ⟨fun i i1 i2 i3 i4 i5 => ?_, fun k k1 k2 => ?_, fun i i0 i1 i6 i7 => ?_, fun k hk => ?_, fun k hk => ?_, fun q => (zf2.2 q).eq ?_ ?_ ?_⟩, ?_⟩
    · show a v 8 = _; rw [a4 8 (by decide)]; exact q2
    · rw [kb 3 (by omega) (by omega) (by omega) (fun q hq => by omega)]; exact h3
    · show a (v + 1) p = _; rw [(a1 p hp).1, (b1 p hp).1]
    · show a (v + 2) p = _; rw [ad 2 (by omega), kb _ (by omega) (by omega) (by omega) (fun q hq => by omega)]; exact (r1 p hp).2.1
    · show a (v + 3) p = _; rw [ad 3 (by omega), kb _ (by omega) (by omega) (by omega) (fun q hq => by omega)]; exact (r1 p hp).2.2.1
    · show a (v + 4) p = _; rw [(a1 p hp).2.1, (b1 p hp).2.1]
    · show a (v + 5) p = _; rw [(a1 p hp).2.2, (b1 p hp).2.2]
    · show a v 9 = _; rw [a4 9 (by decide), bs_congr fSe]; exact r2
    · show a v 10 = _; rw [a4 10 (by decide), bs_congr fBe]; exact r3
    · show a (v + 6) _ = _; rw [ad 6 (by omega), kb _ (by omega) (by omega) (by omega) (fun q hq => by omega)]; exact r4 p o hp ho hne
    · show a (v + 7) _ = _; rw [ad 7 (by omega), kb _ (by omega) (by omega) (by omega) (fun q hq => by omega)]; exact r5 q hq
    · show a v 12 = _; rw [a4 12 (by decide), kb _ (by omega) (by omega) (by omega) (fun q hq => by omega)]; exact n2
    · show a v 13 = _; rw [a4 13 (by decide), kb _ (by omega) (by omega) (by omega) (fun q hq => by omega)]; exact n3
    · show a v 14 = _; rw [a4 14 (by decide), kb _ (by omega) (by omega) (by omega) (fun q hq => by omega)]; exact n4
    · show a v 15 = _; rw [a4 15 (by decide), kb _ (by omega) (by omega) (by omega) (fun q hq => by omega)]; exact n5
    · show a v 16 = _; rw [a4 16 (by decide), kb _ (by omega) (by omega) (by omega) (fun q hq => by omega)]; exact n6
    · show a (v + 3) p = _; rw [ad 3 (by omega)]; exact (x1 p h1 h2).1
    · show a (v + 4) p = _; rw [(a2 p h1).1]; exact (x1 p h1 h2).2.1
    · show a (v + 5) p = _; rw [(a2 p h1).2]; exact (x1 p h1 h2).2.2
    · show a (v + 6) _ = _; rw [ad 6 (by omega)]; exact x2 p o h1 h2 h3
    · obtain ⟨y1, y2, y3, y4, y5, y6, y7, y8⟩ := h.2
      refine ⟨fun p hp => ?_, fun p o hp ho hne => ?_, fun q hq => ?_, kfi, ?_, ?_, ?_, ?_⟩
      · obtain ⟨t0, t1, t2, t3, t4, t5, t6⟩ := y1 p hp
        rw [(b1 p hp).1, (b1 p hp).2.1, (b1 p hp).2.2, kb _ (by omega) (by omega) (by omega) (fun q hq => by omega), kb _ (by omega) (by omega) (by omega) (fun q hq => by omega), kb _ (by omega) (by omega) (by omega) (fun q hq => by omega), kb _ (by omega) (by omega) (by omega) (fun q hq => by omega)]
        refine ⟨?_, t1, t2, t3, t4, ?_, ?_⟩
        · unfold lfH
          split
          · exact inR_nI (a := 0) (by omega)
          · split
            · exact more_in t0
            · exact t0
        · unfold lfD
          split
          · exact had_in t5
          · exact t5
        · unfold lfR
          split
          · exact run_in t6
          · exact inR_nI (a := 0) (by omega)
      · rw [kb _ (by omega) (by omega) (by omega) (fun q hq => by omega)]; exact y2 p o hp ho hne
      · rw [kb _ (by omega) (by omega) (by omega) (fun q hq => by omega)]; exact y3 q hq
      · rw [kb _ (by omega) (by omega) (by omega) (fun q hq => by omega)]; exact y5
      · rw [kb _ (by omega) (by omega) (by omega) (fun q hq => by omega)]; exact y6
      · rw [kb _ (by omega) (by omega) (by omega) (fun q hq => by omega)]; exact y7
      · rw [kb _ (by omega) (by omega) (by omega) (fun q hq => by omega)]; exact y8
    · rw [a6 i i2]; exact sf i i1 i3 i4 i5
    · rw [a6 32 (by omega)]; exact sf2 k k1 k2
    · rw [b3 i i1]; exact zf i i0 i1 i6 i7
    · rw [b3 0 (by decide)]; exact zf2.1 k hk
    · exact kb k (by omega) (by omega) (by omega) (fun q hq => by omega)
    · rw [b3 0 (by decide)]
    · rw [b3 0 (by decide)]
    · rw [b3 0 (by decide)]
    · rw [a4 10 (by decide), sv]

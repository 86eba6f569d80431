/-! LAYER 2: A VILLAGE READ -/
theorem obI {α : Type} {x : Option α} : (Option.bind x fun y => some y) = x := by cases x <;> rfl
theorem obP {α β : Type} {x : Option (α × β)} : (Option.bind x fun y => some (y.1, y.2)) = x := by cases x <;> rfl
theorem wd_0 {T : TxT} {N b w : Nat} (hw : w < 46) (h : wd T N b w = true) : T b = wc w 0 := by
  have hl := (wl_b w hw).1
  refine Classical.byContradiction (fun q => ?_)
  have := wdF_f (T := T) (w := w) (b := b) (i := 0) hl q
  unfold wd at h
  rw [this, Bool.and_false, Bool.and_false] at h
  cases h
theorem wd_813 {T : TxT} {N b : Nat} (h : wd T N b 8 = true) : wd T N b 13 = false := by
  cases h2 : wd T N b 13 with
  | false => rfl
  | true =>
    have e1 := wd_0 (by decide) h
    have e2 := wd_0 (by decide) h2
    rw [e1] at e2
    exact absurd e2 (by decide +kernel)
theorem ln_line {T : TxT} {N p n : Nat} {s w : St} (h : VL T N s w p n) : LnV T N s w (q6_readVillageLine s) (q12_villageLine w) := by
  have hl := h
  obtain ⟨h1, h2, h3, hk⟩ := h
  have hN := h2.1.1
  have hb := sk_b (T := T) h2.2.1
  have hP : PM T N (up w 0 11 (nI (sk T N p))) (sk T N p) := h2.of hb.2
  have hh : ∀ k, k < 46 → q12_has (up w 0 11 (nI (sk T N p))) k = some (wd T N (sk T N p) k, up w 0 11 (nI (if wd T N (sk T N p) k = true then te T N (sk T N p) else sk T N p))) := fun k hk => by rw [has12 hP hk, sk_sk h2.2.1, up_up]
  unfold q6_readVillageLine q12_villageLine
  simp only [lt_nr]
  rw [here_ok h2, word_ok h1 (by decide), word_ok h1 (by decide), word_ok h1 (by decide), word_ok h1 (by decide), word_ok h1 (by decide), word_ok h1 (by decide), word_ok h1 (by decide)]
  simp only [Option.bind_some, obP, obI]
  rw [hh 0 (by decide)]
  simp only [Option.bind_some]
  cases w0 : wd T N (sk T N p) 0 with
  | true =>
    simp only [if_true]
    exact ln_per hl w0
  | false =>
    simp only [Bool.false_eq_true, if_false]
    rw [hh 7 (by decide)]
    simp only [Option.bind_some]
    cases w7 : wd T N (sk T N p) 7 with
    | true =>
      simp only [if_true]
      exact ln_lik hl
    | false =>
      simp only [Bool.false_eq_true, if_false]
      rw [hh 13 (by decide)]
      simp only [Option.bind_some]
      cases w8 : wd T N (sk T N p) 8 with
      | true =>
        rw [wd_813 w8]
        simp only [Bool.false_eq_true, if_false, if_true]
        rw [hh 8 (by decide), w8]
        simp only [Option.bind_some, if_true]
        exact ln_gri hl
      | false =>
        cases w13 : wd T N (sk T N p) 13 with
        | true =>
          simp only [Bool.false_eq_true, if_false, if_true]
          exact ln_tel (k := 11) (c := 5) (H := 999) hl (by decide) (by decide) (by decide) (by decide) (fun s1 w1 v hv _ hk => ⟨hk.1.uFl, hk.2.uFl hk.1.1.1 (inR_nI (by omega))⟩)
        | false =>
          simp only [Bool.false_eq_true, if_false]
          rw [hh 8 (by decide), w8]
          simp only [Option.bind_some, Bool.false_eq_true, if_false]
          rw [hh 14 (by decide)]
          simp only [Option.bind_some]
          cases w14 : wd T N (sk T N p) 14 with
          | true =>
            simp only [if_true]
            exact ln_tel (k := 13) (c := 6) (H := 5) hl (by decide) (by decide) (by decide) (by decide) (fun s1 w1 v hv hH hk => ⟨hk.1.uWy, hk.2.uWy hk.1.1.1 (inR_nI ((nI_leI (b := 5) (by omega) (by decide)).mp hH))⟩)
          | false =>
            simp only [Bool.false_eq_true, if_false]
            rw [hh 15 (by decide)]
            simp only [Option.bind_some]
            cases w15 : wd T N (sk T N p) 15 with
            | true =>
              simp only [if_true]
              exact ln_tel (k := 14) (c := 7) (H := 100) hl (by decide) (by decide) (by decide) (by decide) (fun s1 w1 v hv hH hk => ⟨hk.1.uSp, hk.2.uSp hk.1.1.1 (inR_nI ((nI_leI (b := 100) (by omega) (by decide)).mp hH))⟩)
            | false =>
              simp only [Bool.false_eq_true, if_false]
              rw [hh 16 (by decide)]
              simp only [Option.bind_some]
              cases w16 : wd T N (sk T N p) 16 with
              | true =>
                simp only [if_true]
                exact ln_tel (k := 12) (c := 4) (H := 999) hl (by decide) (by decide) (by decide) (by decide) (fun s1 w1 v hv _ hk => ⟨hk.1.uWe, hk.2.uWe hk.1.1.1 (inR_nI (by omega))⟩)
              | false =>
                simp only [Bool.false_eq_true, if_false]
                rw [up_at, wrong_ok (by rw [up_off (by decide)]; exact h3)]
                exact LnV.er hb.2 h1 ⟨_, hb.2, rfl⟩ Fc54.rf
/-! the lines -/
def rvB (rec10_ : Int32 → St → Option RcT) (lines13_ : Int32) (σ14_ : St) : Option RcT :=
  if lines13_ < 14 then
  Option.bind (q6_readVillageLine σ14_) fun x23_ =>
  if ¬ (x23_.1 = true) then (some (.inl (false, x23_.2))) else
  if q8_isAtEnd x23_.2 = true then (some (.inl (true, x23_.2))) else
  Option.bind (q8_isSign x23_.2 59) fun x33_ =>
  if ¬ (x33_ = true) then (some (.inl (false, x23_.2))) else
  Option.bind (q8_advance x23_.2) fun x37_ =>
  rec10_ (lines13_ + 1) x37_
  else (some (.inr (lines13_, σ14_)))
def RdV (T : TxT) (N : Nat) (s w : St) (x : Option RcT) (y : Option (Bool × Int32 × St)) : Prop := (∃ e s' w' g n' r, x = some r ∧ rcX r = some (false, s') ∧ y = some (g, n', w') ∧ e ≤ N ∧ TK T N s' e ∧ w' 0 12 = nI e ∧ Fc54 s s' ∧ Fr54 w w') ∨ ∃ s' w' g n' r n2, x = some r ∧ rcX r = some (true, s') ∧ y = some (g, n', w') ∧ w' 0 12 = -1 ∧ Wk 54 n2 s' w' ∧ Fc54 s s' ∧ Fr54 w w'
theorem rdV {T : TxT} {N : Nat} : ∀ (k n M M' : Nat) (s w : St) (p nn : Nat), k + n = 14 → k < M → k + 2 ≤ M' → VL T N s w p nn → RdV T N s w (loop2 rvB M (nI n) s) (loop3 (rdB false) M' true (nI n) w)
  | k, n, 0, M', s, w, p, nn, hkn, hM, hM', h => absurd hM (Nat.not_lt_zero _)
  | k, n, M + 1, 0, s, w, p, nn, hkn, hM, hM', h => absurd hM' (by omega)
  | k, n, M + 1, 1, s, w, p, nn, hkn, hM, hM', h => absurd hM' (by omega)
  | k, n, M + 1, M' + 2, s, w, p, nn, hkn, hM, hM', h => by
    obtain ⟨h1, h2, h3, hk⟩ := h
    have hb := sk_b (T := T) h2.2.1
    have hN := h2.1.1
    have hP := h2.of hb.2
    show RdV T N s w (rvB (loop2 rvB M) (nI n) s) (rdB false (loop3 (rdB false) (M' + 1)) true (nI n) w)
    have hex : ∀ (g : Bool) (n' : Int32) (y : St), (g = false ∨ ¬ y 0 12 = -1) → loop3 (rdB false) (M' + 1) g n' y = some (g, n', y) := fun g n' y hy => by
      show rdB false (loop3 (rdB false) M') g n' y = _
      exact rdB_ex hy
    have hih : ∀ (k' n' : Nat) (s' w' : St) (p' nn' : Nat), k' + 1 = k → k' + n' = 14 → VL T N s' w' p' nn' → RdV T N s' w' (loop2 rvB M (nI n') s') (loop3 (rdB false) (M' + 1) true (nI n') w') := fun k' n' s' w' p' nn' e1 e2 e3 => rdV k' n' M (M' + 1) s' w' p' nn' e2 (by omega) (by omega) e3
    generalize loop3 (rdB false) (M' + 1) = rec at hex hih
    generalize loop2 rvB M = rec2 at hih
    unfold rdB rvB
    rw [if_pos (show (true = true) ∧ w 0 12 = -1 from ⟨rfl, h3⟩), skip_ok h2]
    simp only [Option.bind_some, Bool.false_eq_true, if_false]
    have h12b : up w 0 11 (nI (sk T N p)) 0 12 = -1 := by rw [up_off (by decide)]; exact h3
    have e14 : nI n = 14 ↔ k = 0 := by
      rw [show (14 : Int32) = nI 14 from rfl, nI_eq (by omega) (by omega)]
      omega
    have l14 : nI n < 14 ↔ ¬ k = 0 := by
      rw [show (14 : Int32) = nI 14 from rfl, nI_ltI (by omega) (by omega)]
      omega
    cases k with
    | zero =>
      rw [if_pos (e14.mpr rfl), if_neg (fun q => l14.mp q rfl), wrong_ok h12b, up_at]
      simp only [Option.bind_some]
      have hPe : PM T N (up (up w 0 11 (nI (sk T N p))) 0 12 (nI (sk T N p))) (sk T N p) := hP.u0 (by decide) (by decide) (by decide)
      obtain ⟨z, ez⟩ := rdB_er (T := T) (N := N) (e := 0) (σ := w) (law := true) (rec := rec) (n := nI n) hPe.1 ⟨_, by omega, hPe.2.2⟩ (by rw [up_at]; exact nI_m1 (by omega))
      rw [ez, hex _ _ _ (Or.inl rfl)]
      exact Or.inl ⟨sk T N p, s, _, _, _, _, rfl, rfl, rfl, hb.2, h1, by rw [up_off (by decide), up_at], Fc54.rf, (Fr54.u11.tr Fr54.u12).tr Fr54.u11⟩
    | succ k =>
      rw [if_pos (l14.mpr (by omega)), if_neg (show ¬ nI n = 14 from fun q => by have := e14.mp q; omega)]
      have hl0 : VL T N s (up w 0 11 (nI (sk T N p))) (sk T N p) nn := ⟨by rw [sk_sk h2.2.1]; exact h1, hP, h12b, by unfold Wk; rw [up_pl (by decide)]; exact hk⟩
      rcases ln_line hl0 with ⟨e, s', w', c1, c2, c3, c4, c5, ⟨q, c6, c7⟩, c8, c9⟩ | ⟨s', w', q, n', c1, c2, c3, c4, c5⟩
      · rw [c1, c2]
        simp only [Option.bind_some, Bool.false_eq_true, if_false, not_false_iff, if_true]
        have c9 := Fr54.u11.tr c9
        obtain ⟨z, ez⟩ := rdB_er (T := T) (N := N) (e := 0) (σ := w) (law := true) (rec := rec) (n := nI n) (c9.lt h2.1) ⟨q, by omega, c7⟩ (by rw [c5]; exact nI_m1 (by omega))
        rw [ez, hex _ _ _ (Or.inl rfl)]
        exact Or.inl ⟨e, s', _, _, _, _, rfl, rfl, rfl, c3, c4, by rw [up_off (by decide)]; exact c5, c8, c9.tr Fr54.u11⟩
      · rw [c1, c2]
        simp only [Option.bind_some, not_true, if_false]
        have c5 := Fr54.u11.tr c5
        obtain ⟨d1, d2, d3, d4⟩ := c3
        have hbq := sk_b (T := T) d2.2.1
        rw [rdB_af d2 d3, atEnd_ok d1]
        by_cases hc : sk T N q = N
        · rw [if_pos hc, if_pos (decide_eq_true hc), hex _ _ _ (Or.inl rfl)]
          exact Or.inr ⟨s', _, _, _, _, n', rfl, rfl, rfl, by rw [up_off (by decide)]; exact d3, by unfold Wk; rw [up_pl (by decide)]; exact d4, c4, c5.tr Fr54.u11⟩
        · rw [if_neg hc, if_neg (by rw [decide_eq_false hc]; decide), sign_ok d1 (by decide)]
          simp only [Option.bind_some]
          cases hg : sg T N (sk T N q) 59 with
          | false =>
            simp only [Bool.false_eq_true, if_false, not_false_iff, if_true]
            rw [hex _ _ _ (Or.inr (by rw [up_at]; exact nI_m1 (by omega)))]
            exact Or.inl ⟨sk T N q, s', _, _, _, _, rfl, rfl, rfl, hbq.2, d1, up_at, c4, (c5.tr Fr54.u11).tr Fr54.u12⟩
          | true =>
            simp only [if_true, not_true, if_false]
            have hl := (sg_b hg).1
            have hte : te T N (sk T N q) = sk T N q + 1 := te_sg hg (by decide)
            obtain ⟨s2, e2, t2, f2⟩ := adv_ok d1
            rw [e2]
            simp only [Option.bind_some]
            rw [nI_1]
            rw [hte] at t2
            have hP2 := d2.of (q := sk T N q + 1) (by omega)
            have hv : VL T N s2 (up w' 0 11 (nI (sk T N q + 1))) (sk T N q + 1) n' := ⟨t2, hP2, by rw [up_off (by decide)]; exact d3, ⟨by rw [up_pl (by decide)]; exact d4.1.mv (fun j hj => f2 _ (by omega)), by rw [up_pl (by decide)]; exact d4.2⟩⟩
            have hF : Fc54 s s2 := c4.ad f2
            have hR := c5.tr (Fr54.u11 (x := nI (sk T N q + 1)))
            rcases hih k (n + 1) s2 _ _ n' rfl (by omega) hv with ⟨e, s3, w3, g, n3, r, g1, g2, g3, g4, g5, g6, g7, g8⟩ | ⟨s3, w3, g, n3, r, n4, g1, g2, g3, g4, g5, g6, g7⟩
            · exact Or.inl ⟨e, s3, w3, g, n3, r, g1, g2, g3, g4, g5, g6, hF.tr g7, hR.tr g8⟩
            · exact Or.inr ⟨s3, w3, g, n3, r, n4, g1, g2, g3, g4, g5, hF.tr g6, hR.tr g7⟩
theorem rdVil_eq {σ : St} : q6_readVillage σ = Option.bind (q8_open σ) (fun x1_ => if q8_isAtEnd x1_ = true then (some (true, x1_)) else Option.bind (loop2 rvB fuelN (0 : Int32) x1_) rcX) := rfl
theorem vil_rd {T : TxT} {N n : Nat} {s w : St} (hX : TX T N s) (h2 : PM T N w 0) (h3 : w 0 12 = -1) (hk : Wk 54 n s w) : (∃ e s' w' x, q6_readVillage s = some (false, s') ∧ q12_read w false = some (x, w') ∧ e ≤ N ∧ TK T N s' e ∧ w' 0 12 = nI e ∧ Fc54 s s' ∧ Fr54 w w') ∨ ∃ s' w' x n2, q6_readVillage s = some (true, s') ∧ q12_read w false = some (x, w') ∧ w' 0 12 = -1 ∧ Wk 54 n2 s' w' ∧ Fc54 s s' ∧ Fr54 w w' := by
  have hN := hX.1
  have hb := sk_b (T := T) h2.2.1
  have hX' : TX T N (up s 1 3 0) := ⟨hN, by rw [up_off (by decide)]; exact hX.2.1, fun k hk => by rw [up_pl (by decide)]; exact hX.2.2 k hk⟩
  obtain ⟨v, ev, v1, v2⟩ := adv_of (e := 0) hX' (by omega) up_at
  have hop : q8_open s = some v := by
    unfold q8_open
    simp only [lt_nr]
    rw [ev]
    rfl
  have f2 : ∀ i, i ≠ 1 → v i = s i := fun i hi => by rw [v2 i hi, up_pl hi]
  rw [rdVil_eq, read_eq, hop, skip_ok h2]
  simp only [Option.bind_some]
  rw [atEnd_ok v1, up_at]
  have e10 : up w 0 11 (nI (sk T N 0)) 0 10 = nI N := by rw [up_off (by decide)]; exact h2.1.2.2
  rw [e10]
  have e1 : nI (sk T N 0) < nI N ↔ sk T N 0 < N := nI_ltI (by omega) (by omega)
  have hk' : Wk 54 n v (up w 0 11 (nI (sk T N 0))) := ⟨by rw [up_pl (by decide)]; exact hk.1.mv (fun j hj => f2 _ (by omega)), by rw [up_pl (by decide)]; exact hk.2⟩
  have h12 : up w 0 11 (nI (sk T N 0)) 0 12 = -1 := by rw [up_off (by decide)]; exact h3
  by_cases hc : sk T N 0 = N
  · rw [if_pos (decide_eq_true hc), decide_eq_false (fun q => by have := e1.mp q; omega)]
    have hl : loop3 (rdB false) fuelN false 0 (up w 0 11 (nI (sk T N 0))) = some (false, 0, up w 0 11 (nI (sk T N 0))) := by
      have : Wo (loop3 (rdB false) fuelN false 0 (up w 0 11 (nI (sk T N 0)))) (fun r => r = (false, 0, up w 0 11 (nI (sk T N 0)))) := by
        refine lpW3 0 (fun _ g n z => g = false ∧ n = 0 ∧ z = up w 0 11 (nI (sk T N 0))) ?_ fuelN 0 _ _ _ (Nat.zero_le _) (fuel_ok (by omega)) ⟨rfl, rfl, rfl⟩
        rintro rec t g n z _ ⟨rfl, rfl, rfl⟩ _
        rw [rdB_ex (Or.inl rfl)]
        exact wo_some rfl
      obtain ⟨r, er, rfl⟩ := this
      exact er
    rw [hl]
    exact Or.inr ⟨v, _, _, n, rfl, rfl, h12, hk', Fc54.rf.ad f2, Fr54.u11⟩
  · rw [if_neg (by rw [decide_eq_false hc]; decide), decide_eq_true (e1.mpr (by omega))]
    have hv : VL T N v (up w 0 11 (nI (sk T N 0))) (sk T N 0) n := ⟨by rw [sk_sk h2.2.1]; exact v1, h2.of hb.2, h12, hk'⟩
    have hr := rdV (T := T) (N := N) 14 0 fuelN fuelN v (up w 0 11 (nI (sk T N 0))) (sk T N 0) n rfl (by unfold fuelN; omega) (by unfold fuelN; omega) hv
    have hr : RdV T N v (up w 0 11 (nI (sk T N 0))) (loop2 rvB fuelN 0 v) (loop3 (rdB false) fuelN true 0 (up w 0 11 (nI (sk T N 0)))) := hr
    generalize fuelN = f at hr ⊢
    rcases hr with ⟨e, s3, w3, g, n3, r, g1, g2, g3, g4, g5, g6, g7, g8⟩ | ⟨s3, w3, g, n3, r, n4, g1, g2, g3, g4, g5, g6, g7⟩
    · rw [g1, g3]
      simp only [Option.bind_some]
      rw [g2]
      exact Or.inl ⟨e, s3, w3, n3, rfl, rfl, g4, g5, g6, (Fc54.rf.ad f2).tr g7, Fr54.u11.tr g8⟩
    · rw [g1, g3]
      simp only [Option.bind_some]
      rw [g2]
      exact Or.inr ⟨s3, w3, n3, n4, rfl, rfl, g4, g5, (Fc54.rf.ad f2).tr g6, Fr54.u11.tr g7⟩

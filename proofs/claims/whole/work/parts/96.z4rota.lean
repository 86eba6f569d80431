/-! LAYER 2: ROTA, THE LEVELS OF THE REFERENCE -/
def rBody (n_a : Int32) (rec36_ : Int32 → Int32 → St → Option (Int32 × Int32 × St)) (least39_ : Int32) (level40_ : Int32) (σ41_ : St) : Option (Int32 × Int32 × St) :=
  if 0 ≤ level40_ then
  if level40_ = n_a then (Option.bind (Option.bind (ag σ41_ 11 8 n_a) fun x57_ =>
  Option.bind (q12_bits x57_) fun x59_ =>
  if x59_ < least39_ then (Option.bind (ag σ41_ 11 8 n_a) fun x63_ =>
  Option.bind (q12_bits x63_) fun x65_ =>
  Option.bind (loop2 (fun rec70_ (i73_ : Int32) (σ74_ : St) =>
  if i73_ < n_a then
  Option.bind (ag σ74_ 13 8 i73_) fun x81_ =>
  Option.bind (sa σ74_ 9 7 i73_ x81_) fun σ83_ =>
  lt (i73_ + 1) fun i85_ =>
  rec70_ i85_ σ83_
  else (some (i73_, σ74_))) fuelN (0 : Int32) σ41_) fun y67_ =>
  some (x65_, y67_.2)) else (some (least39_, σ41_))) fun y52_ =>
  lt (level40_ + (-1)) fun level87_ =>
  rec36_ y52_.1 level87_ y52_.2) else
  Option.bind (ag σ41_ 13 8 level40_) fun x89_ =>
  Option.bind (sa σ41_ 13 8 level40_ (x89_ + 1)) fun σ91_ =>
  Option.bind (loop1 (fun rec96_ (σ99_ : St) =>
  Option.bind (Option.bind (ag σ99_ 13 8 level40_) fun x106_ =>
  Option.bind (ag σ99_ 1 752 3) fun x108_ =>
  if x106_ < x108_ then (Option.bind (ag σ99_ 13 8 level40_) fun x111_ =>
  Option.bind (q12_mayGive σ99_ level40_ x111_) fun x113_ =>
  if x113_ = true then (some false) else (some true)) else (some false)) fun t104_ =>
  if t104_ = true then
  Option.bind (ag σ99_ 13 8 level40_) fun x117_ =>
  Option.bind (sa σ99_ 13 8 level40_ (x117_ + 1)) fun σ119_ =>
  rec96_ σ119_
  else (some σ99_)) fuelN σ91_) fun y93_ =>
  Option.bind (Option.bind (ag y93_ 13 8 level40_) fun x125_ =>
  Option.bind (ag y93_ 1 752 3) fun x127_ =>
  if x127_ ≤ x125_ then (Option.bind (ag y93_ 13 8 level40_) fun x130_ =>
  if ¬ x130_ = (-1) then (some true) else (some false)) else (some false)) fun t123_ =>
  if t123_ = true then (lt (level40_ + (-1)) fun level134_ =>
  rec36_ least39_ level134_ y93_) else
  Option.bind (ag y93_ 13 8 level40_) fun x136_ =>
  Option.bind (q12_turns y93_ level40_ x136_) fun x138_ =>
  lt (level40_ + 1) fun level140_ =>
  Option.bind (if level140_ < 8 then (Option.bind (sa x138_ 13 8 level140_ (-2)) fun σ149_ =>
  some (σ149_)) else (some (x138_))) fun y142_ =>
  rec36_ least39_ level140_ y142_
  else (some (least39_, level40_, σ41_))
def fewB (σ : St) (n_a : Int32) : Option (Int32 × St) :=
  Option.bind (loop2 (fun rec4_ (p7_ : Int32) (σ8_ : St) =>
  Option.bind (ag σ8_ 1 752 3) fun x13_ =>
  if p7_ < x13_ then
  Option.bind (q12_of σ8_ p7_ 0) fun x17_ =>
  Option.bind (sa σ8_ 10 56 p7_ x17_) fun σ19_ =>
  lt (p7_ + 1) fun p21_ =>
  rec4_ p21_ σ19_
  else (some (p7_, σ8_))) fuelN (0 : Int32) σ) fun y1_ =>
  Option.bind (q12_those y1_.2 4) fun x23_ =>
  Option.bind (sa y1_.2 11 8 0 x23_) fun σ25_ =>
  Option.bind (ag σ25_ 1 752 5) fun x27_ =>
  Option.bind (sa σ25_ 12 8 0 x27_) fun σ29_ =>
  Option.bind (sa σ29_ 13 8 0 (-2)) fun σ31_ =>
  Option.bind (loop3 (rBody n_a) fuelN (2000000000 : Int32) (0 : Int32) σ31_) fun y33_ =>
  some (y33_.1, y33_.2.2)
theorem few_eq (σ : St) (n_a : Int32) : q12_fewestBy σ n_a = fewB σ n_a := rfl
theorem rB_at {W : Nat} {rec : Int32 → Int32 → St → Option (Int32 × Int32 × St)} {x : Int32} {μ : St} (hW : W ≤ 5) : rBody (nI W) rec x (nI W) μ = Option.bind (Option.bind (ag μ 11 8 (nI W)) fun x57_ =>
  Option.bind (q12_bits x57_) fun x59_ =>
  if x59_ < x then (Option.bind (ag μ 11 8 (nI W)) fun x63_ =>
  Option.bind (q12_bits x63_) fun x65_ =>
  Option.bind (loop2 (fun rec70_ (i73_ : Int32) (σ74_ : St) =>
  if i73_ < nI W then
  Option.bind (ag σ74_ 13 8 i73_) fun x81_ =>
  Option.bind (sa σ74_ 9 7 i73_ x81_) fun σ83_ =>
  rec70_ (i73_ + 1) σ83_
  else (some (i73_, σ74_))) fuelN (0 : Int32) μ) fun y67_ =>
  some (x65_, y67_.2)) else (some (x, μ))) (fun y52_ => rec y52_.1 (nI W + (-1)) y52_.2) := by
  unfold rBody
  rw [if_pos (nI_pos' (by omega)), if_pos rfl]
  dsimp only [lt]
theorem ob2 {α β : Type} {a : Option α} {x : α} {f : α → Option β} {c : Option β} (h : a = some x) (hf : f x = c) : Option.bind a f = c := by
  rw [h]
  exact hf
theorem rB_leaf {S R : Nat → Bool} {g : Nat → Nat} {n W : Nat} {N : ND} {row : Nat → Nat} {acc : RA} {m : Nat → Int32} {μ : St} (hn : n ≤ 6) (hW : W ≤ 5) (hL : LM R n W N row m μ) (hA : AM W acc μ) (hM : acc.1 ≤ 2000000000) : ∃ u, FM W μ u ∧ AM W (rRun S R g n 0 W N row acc) u ∧ ∀ rec, rBody (nI W) rec (nI acc.1) (nI W) μ = rec (nI (rRun S R g n 0 W N row acc).1) (nI W + -1) u := by
  obtain ⟨l1, l2, l3, l4, l5, l6⟩ := hL
  have hct := cn_top (P := N.2.1) n
  have hi := nI_ltI (a := cn N.2.1 n) (b := acc.1) (by omega) (by omega)
  have ea : ag μ 11 8 (nI W) = some (nI (bs N.2.1 n)) := by rw [ag_nI (k := W) rfl (by omega) (by decide), l5]
  rw [rRun_0]
  by_cases hlt : cn N.2.1 n < acc.1
  · rw [if_pos hlt]
    have key : Wo (loop2 (fun rec70_ (i73_ : Int32) (σ74_ : St) =>
  if i73_ < nI W then
  Option.bind (ag σ74_ 13 8 i73_) fun x81_ =>
  Option.bind (sa σ74_ 9 7 i73_ x81_) fun σ83_ =>
  rec70_ (i73_ + 1) σ83_
  else (some (i73_, σ74_))) fuelN (0 : Int32) μ) (fun y => (∀ i, i < W → y.2 9 i = eI (row i)) ∧ ∀ i, i ≠ 9 → y.2 i = μ i) := by
      refine lpW2 W (fun t p w => p = nI t ∧ (∀ i, i < t → w 9 i = eI (row i)) ∧ ∀ i, i ≠ 9 → w i = μ i) ?_ fuelN 0 _ _ (Nat.zero_le _) (fuel_ok (by omega)) ⟨rfl, fun i hi => absurd hi (Nat.not_lt_zero _), fun _ _ => rfl⟩
      rintro rec t p w ht ⟨rfl, w9, wf⟩ IH
      refine wo_ite (fun hlt => ?_) (fun hge => ?_)
      · have htW : t < W := (nI_ltI (by omega) (by omega)).mp hlt
        rw [ag_nI (σ := w) (i := 13) (n := 8) (j := nI t) (k := t) rfl (by omega) (by decide), wf 13 (by decide), l6 t htW]
        simp only [Option.bind_some]
        rw [sa_nI (σ := w) (i := 9) (n := 7) (j := nI t) (k := t) rfl (by omega) (by decide), nI_1]
        simp only [Option.bind_some]
        refine IH _ _ htW ⟨rfl, fun i hi => ?_, fun i hi => by rw [up_pl hi]; exact wf i hi⟩
        by_cases hit : i = t
        · subst hit; rw [up_at]
        · rw [up_off hit]; exact w9 i (by omega)
      · have : t = W := by
          have : ¬ t < W := fun q => hge (nI_lt q (by omega))
          omega
        subst this
        refine wo_some ?_
        try dsimp only
        exact ⟨w9, wf⟩
    obtain ⟨⟨y1, y⟩, ey, y9, yf⟩ := key
    dsimp only at y9 yf
    refine ⟨y, ⟨fun i hi => yf i (by omega), fun j _ => by rw [yf 10 (by decide)], fun j _ => ⟨by rw [yf 11 (by decide)], by rw [yf 12 (by decide)]⟩, fun j _ => by rw [yf 13 (by decide)]⟩, fun _ => y9, fun rec => ?_⟩
    have eb := bits_ok (bs_le hn N.2.1)
    rw [bcount_bs hn] at eb
    refine (rB_at hW).trans ?_
    refine ob2 (x := (nI (cn N.2.1 n), y)) ?_ rfl
    refine ob2 ea ?_
    refine ob2 eb ?_
    refine (if_pos (hi.mpr hlt)).trans ?_
    refine ob2 ea ?_
    refine ob2 eb ?_
    exact ob2 ey rfl
  · rw [if_neg hlt]
    refine ⟨μ, FM.rfl', hA, fun rec => ?_⟩
    have eb := bits_ok (bs_le hn N.2.1)
    rw [bcount_bs hn] at eb
    refine (rB_at hW).trans ?_
    refine ob2 (x := (nI acc.1, μ)) ?_ rfl
    refine ob2 ea ?_
    refine ob2 eb ?_
    exact if_neg (fun q => hlt (hi.mp q))
theorem rB_go {S R : Nat → Bool} {g : Nat → Nat} {n W k j : Nat} {N : ND} {row : Nat → Nat} {m : Nat → Int32} {μ : St} {x : Int32} (hn : n ≤ 6) (hW : W ≤ 5) (hk : k < W) (hj : j ≤ n + 1) (hG : GM S g n W m) (hN : okN n N) (hL : LM R n k N row m μ) (h13 : μ 13 k + 1 = eI j) : ∃ j', j ≤ j' ∧ j' ≤ n + 1 ∧ (∀ i, j ≤ i → i < j' → rOk S R g n k N i = false) ∧ ((j' = n + 1 ∧ ∃ u, FM k μ u ∧ u 9 = μ 9 ∧ ∀ rec, rBody (nI W) rec x (nI k) μ = rec x (nI k + -1) u) ∨ (j' ≤ n ∧ rOk S R g n k N j' = true ∧ ∃ u, LM R n (k + 1) (rSt S g n k N j') (rRow row k j') m u ∧ FM k μ u ∧ u 13 k = eI j' ∧ u 13 (k + 1) = -2 ∧ u 9 = μ 9 ∧ ∀ rec, rBody (nI W) rec x (nI k) μ = rec x (nI (k + 1)) u)) := by
  have a13 : ∀ w : St, ag w 13 8 (nI k) = some (w 13 k) := fun w => ag_nI (k := k) rfl (by omega) (by decide)
  have s13 : ∀ (w : St) (y : Int32), sa w 13 8 (nI k) y = some (up w 13 k y) := fun w y => sa_nI (k := k) rfl (by omega) (by decide)
  have fu : ∀ y, FM k μ (up μ 13 k y) := fun y => ⟨fun i hi => up_pl (by omega), fun i _ => by rw [up_pl (by decide)], fun i _ => ⟨by rw [up_pl (by decide)], by rw [up_pl (by decide)]⟩, fun i hi => up_off (by omega)⟩
  have key : Wo (loop1 (fun rec96_ (σ99_ : St) =>
  Option.bind (Option.bind (ag σ99_ 13 8 (nI k)) fun x106_ =>
  Option.bind (ag σ99_ 1 752 3) fun x108_ =>
  if x106_ < x108_ then (Option.bind (ag σ99_ 13 8 (nI k)) fun x111_ =>
  Option.bind (q12_mayGive σ99_ (nI k) x111_) fun x113_ =>
  if x113_ = true then (some false) else (some true)) else (some false)) fun t104_ =>
  if t104_ = true then
  Option.bind (ag σ99_ 13 8 (nI k)) fun x117_ =>
  Option.bind (sa σ99_ 13 8 (nI k) (x117_ + 1)) fun σ119_ =>
  rec96_ σ119_
  else (some σ99_)) fuelN (up μ 13 k (eI j))) (fun y => ∃ j', j ≤ j' ∧ j' ≤ n + 1 ∧ (∀ i, j ≤ i → i < j' → rOk S R g n k N i = false) ∧ (j' = n + 1 ∨ (j' ≤ n ∧ rOk S R g n k N j' = true)) ∧ y = up μ 13 k (eI j')) := by
    refine lpW1 (n + 1) (fun t w => j ≤ t ∧ (∀ i, j ≤ i → i < t → rOk S R g n k N i = false) ∧ w = up μ 13 k (eI t)) ?_ fuelN j _ hj (fuel_ok (by omega)) ⟨Nat.le_refl _, fun i h1 h2 => absurd h2 (by omega), rfl⟩
    rintro rec t w ht ⟨hjt, hno, rfl⟩ IH
    have hLt := hL.fm hn (fu (eI t))
    rw [a13, ag3, hLt.1, hG.1, up_at]
    simp only [Option.bind_some]
    by_cases htn : t < n + 1
    · rw [if_pos ((eI_lt n (by omega) t (by omega)).mpr htn), give9 hn hW hk (by omega) hG hN hLt]
      simp only [Option.bind_some]
      cases ho : rOk S R g n k N t with
      | true =>
        simp only [if_true, Option.bind_some, Bool.false_eq_true, if_false]
        refine wo_some ?_
        try dsimp only
        exact ⟨t, hjt, ht, hno, Or.inr ⟨by omega, ho⟩, rfl⟩
      | false =>
        simp only [Bool.false_eq_true, if_false, Option.bind_some, if_true]
        rw [s13, eI_s]
        simp only [Option.bind_some]
        refine IH _ htn ⟨by omega, fun i h1 h2 => ?_, ?_⟩
        · by_cases hit : i = t
          · subst hit; exact ho
          · exact hno i h1 (by omega)
        · funext a b
          rw [up_eq2, up_eq2, up_eq2]
          by_cases hab : a = 13 ∧ b = k
          · rw [if_pos hab, if_pos hab]
          · rw [if_neg hab, if_neg hab, if_neg hab]
    · rw [if_neg (fun q => htn ((eI_lt n (by omega) t (by omega)).mp q))]
      simp only [Option.bind_some, Bool.false_eq_true, if_false]
      refine wo_some ?_
      try dsimp only
      exact ⟨t, hjt, ht, hno, Or.inl (by omega), rfl⟩
  obtain ⟨y, ey, j', h1, h2, h3, h4, rfl⟩ := key
  refine ⟨j', h1, h2, h3, ?_⟩
  have hLj := hL.fm hn (fu (eI j'))
  have hun : ∀ rec, rBody (nI W) rec x (nI k) μ = Option.bind (Option.bind (some (eI j')) fun x125_ =>
  Option.bind (some (nI n)) fun x127_ =>
  if x127_ ≤ x125_ then (Option.bind (some (eI j')) fun x130_ =>
  if ¬ x130_ = (-1) then (some true) else (some false)) else (some false)) (fun t123_ =>
  if t123_ = true then (rec x (nI k + -1) (up μ 13 k (eI j'))) else
  Option.bind (q12_turns (up μ 13 k (eI j')) (nI k) (eI j')) fun x138_ =>
  Option.bind (if nI k + 1 < 8 then (Option.bind (sa x138_ 13 8 (nI k + 1) (-2)) fun σ149_ =>
  some (σ149_)) else (some (x138_))) fun y142_ =>
  rec x (nI k + 1) y142_) := fun rec => by
    unfold rBody
    dsimp only [lt]
    rw [if_pos (nI_pos' (by omega)), if_neg (nIe (by omega) (by omega) (by omega)), a13]
    simp only [Option.bind_some]
    rw [s13, h13]
    simp only [Option.bind_some]
    rw [ey]
    simp only [Option.bind_some]
    rw [a13, ag3, hLj.1, hG.1, up_at]
    simp only [Option.bind_some]
  rcases h4 with h4 | ⟨h4, h5⟩
  · refine Or.inl ⟨h4, up μ 13 k (eI j'), fu _, up_pl (by decide), fun rec => ?_⟩
    rw [hun rec]
    simp only [Option.bind_some]
    rw [if_pos ((eI_le n (by omega) j' (by omega)).mpr (by omega)), if_pos (fun q => by have := (eI_m1 j' (by omega)).mp q; omega)]
    simp only [Option.bind_some, if_true]
  · obtain ⟨z, ez, z10, z12, z11, zf, zl, zb⟩ := turns9 (e := j') hn hW hk h4 hG hN hLj h5
    have fz : FM k μ (up z 13 (k + 1) (-2)) := ⟨fun i hi => by rw [up_pl (by omega), zf i (by omega) (by omega) (by omega), up_pl (by omega)], fun i hi => by rw [up_pl (by decide), zl i hi, up_pl (by decide)], fun i hi => ⟨by rw [up_pl (by decide), (zb i hi).1, up_pl (by decide)], by rw [up_pl (by decide), (zb i hi).2, up_pl (by decide)]⟩, fun i hi => by rw [up_off (by omega), zf 13 (by decide) (by decide) (by decide), up_off (by omega)]⟩
    have z13 : up z 13 (k + 1) (-2) 13 k = eI j' := by rw [up_off (by omega), zf 13 (by decide) (by decide) (by decide), up_at]
    refine Or.inr ⟨h4, h5, up z 13 (k + 1) (-2), ⟨?_, ?_, fun p hp => ?_, ?_, ?_, fun i hi => ?_⟩, fz, z13, up_at, ?_, fun rec => ?_⟩
    · rw [fz.1 1 (by omega)]; exact hL.1
    · rw [fz.1 0 (by omega)]; exact hL.2.1
    · rw [up_pl (by decide)]; exact z10 p hp
    · rw [up_pl (by decide)]; exact z12
    · rw [up_pl (by decide)]; exact z11
    · unfold rRow
      by_cases hik : i = k
      · subst hik; rw [if_pos rfl]; exact z13
      · rw [if_neg hik, fz.2.2.2 i (by omega)]; exact hL.2.2.2.2.2 i (by omega)
    · rw [up_pl (by decide), zf 9 (by decide) (by decide) (by decide), up_pl (by decide)]
    · rw [hun rec]
      simp only [Option.bind_some]
      rw [if_neg (fun q => by have := (eI_le n (by omega) j' (by omega)).mp q; omega)]
      simp only [Option.bind_some, Bool.false_eq_true, if_false]
      rw [ez]
      simp only [Option.bind_some]
      rw [nI_1, if_pos (show nI (k + 1) < 8 from nI_lt (b := 8) (by omega) (by omega)), sa_nI (σ := z) (i := 13) (n := 8) (k := k + 1) rfl (by omega) (by decide)]
      rfl
def rC (n : Nat) : Nat → Nat
  | 0 => 1
  | d + 1 => (n + 1) * (1 + rC n d) + 1
theorem rC_le : ∀ n, n < 7 → ∀ d, d < 6 → rC n d ≤ 50000 := by decide +kernel
theorem loop3_s {A B C Rr : Type} {f : (A → B → C → Option Rr) → A → B → C → Option Rr} {N : Nat} {a : A} {b : B} {c : C} : loop3 f (N + 1) a b c = f (loop3 f N) a b c := rfl
theorem refL {S R : Nat → Bool} {g : Nat → Nat} {n W : Nat} {m : Nat → Int32} (hn : n ≤ 6) (hW : W ≤ 5) (hG : GM S g n W m) : ∀ (d k : Nat) (N : ND) (row : Nat → Nat) (acc : RA) (μ : St), k + d = W → okN n N → LM R n k N row m μ → AM W acc μ → μ 13 k = -2 → acc.1 ≤ 2000000000 → ∃ c u, c ≤ rC n d ∧ FM k μ u ∧ AM W (rRun S R g n d k N row acc) u ∧ ∀ F, loop3 (rBody (nI W)) (F + c) (nI acc.1) (nI k) μ = loop3 (rBody (nI W)) F (nI (rRun S R g n d k N row acc).1) (nI k + -1) u
  | 0, k, N, row, acc, μ, hkd, hN, hL, hA, _, hM => by
    have hk : k = W := by omega
    subst hk
    obtain ⟨u, u1, u2, u3⟩ := rB_leaf (S := S) (g := g) hn hW hL hA hM
    exact ⟨1, u, Nat.le_refl _, u1, u2, fun F => by rw [loop3_s]; exact u3 _⟩
  | d + 1, k, N, row, acc, μ, hkd, hN, hL, hA, h13, hM => by
    have J : ∀ (q j : Nat) (acc : RA) (μ : St), j + q = n + 1 → LM R n k N row m μ → AM W acc μ → μ 13 k + 1 = eI j → acc.1 ≤ 2000000000 → ∃ c u, c ≤ q * (1 + rC n d) + 1 ∧ FM k μ u ∧ AM W (rIt (rCh S R g n d k N row) q j acc) u ∧ ∀ F, loop3 (rBody (nI W)) (F + c) (nI acc.1) (nI k) μ = loop3 (rBody (nI W)) F (nI (rIt (rCh S R g n d k N row) q j acc).1) (nI k + -1) u := by
      intro q
      induction q using Nat.strongRecOn with
      | ind q ih =>
        intro j acc μ hjq hL hA h13 hM
        obtain ⟨j', h1, h2, h3, h4⟩ := rB_go (S := S) (g := g) (x := nI acc.1) hn hW (by omega) (by omega) hG hN hL h13
        have hsk : ∀ i, j ≤ i → i < j + (j' - j) → ∀ a, rCh S R g n d k N row i a = a := fun i q1 q2 a => by
          unfold rCh
          rw [h3 i q1 (by omega), if_neg (by decide)]
        rcases h4 with ⟨h4, u, u1, u2, u3⟩ | ⟨h4, h5, u, u1, u2, u3, u4, u5, u6⟩
        · have er : rIt (rCh S R g n d k N row) q j acc = acc := by
            rw [show q = (j' - j) + 0 by omega, rIt_skip (j' - j) j hsk]
            rfl
          rw [er]
          exact ⟨1, u, by omega, u1, fun h6 i hi => by rw [u2]; exact hA h6 i hi, fun F => by rw [loop3_s]; exact u3 _⟩
        · obtain ⟨c1, w, c2, w1, w2, w3⟩ := refL hn hW hG d (k + 1) (rSt S g n k N j') (rRow row k j') acc u (by omega) hN.st u1 (fun h6 i hi => by rw [u5]; exact hA h6 i hi) u4 hM
          have fw : FM k μ w := u2.tr w1 (by omega)
          have w13 : w 13 k + 1 = eI (j' + 1) := by rw [w1.2.2.2 k (by omega), u3, eI_s]
          have ech : rCh S R g n d k N row j' acc = rRun S R g n d (k + 1) (rSt S g n k N j') (rRow row k j') acc := by
            unfold rCh
            rw [if_pos h5]
          have er : rIt (rCh S R g n d k N row) q j acc = rIt (rCh S R g n d k N row) (n - j') (j' + 1) (rRun S R g n d (k + 1) (rSt S g n k N j') (rRow row k j') acc) := by
            rw [show q = (j' - j) + ((n - j') + 1) by omega, rIt_skip (j' - j) j hsk, show j + (j' - j) = j' by omega, rIt_1, ech]
          obtain ⟨c3, z, c4, z1, z2, z3⟩ := ih (n - j') (by omega) (j' + 1) _ w (by omega) (hL.fm hn fw) w2 w13 (rRun_le _ _ _ _ _ hM)
          rw [er]
          refine ⟨c3 + c1 + 1, z, ?_, fw.tr z1 (Nat.le_refl _), z2, fun F => ?_⟩
          · have : (n - j' + 1) * (1 + rC n d) ≤ q * (1 + rC n d) := Nat.mul_le_mul_right _ (by omega)
            rw [Nat.succ_mul] at this
            omega
          · rw [show F + (c3 + c1 + 1) = (F + c3 + c1) + 1 by omega, loop3_s, u6, w3, pk_m1]
            exact z3 F
    obtain ⟨c, u, c1, u1, u2, u3⟩ := J (n + 1) 0 acc μ (by omega) hL hA (by rw [h13]; decide) hM
    exact ⟨c, u, c1, u1, u2, u3⟩
theorem few9 {S R : Nat → Bool} {g : Nat → Nat} {n W : Nat} {N : ND} {m : Nat → Int32} {μ : St} (hn : n ≤ 6) (hW : W ≤ 5) (hG : GM S g n W m) (hN : okN n N) (h1 : μ 1 = m) (h21 : μ 0 21 = nI (bs R n)) (hh : ∀ p, p < n → m (14 + 7 * p) = nI (N.1 p)) (hB : N.2.1 = fB m) (hWm : WFm m n) (hf : m 5 = nI N.2.2) : Wo (q12_fewestBy μ (nI W)) (fun r => r.1 = nI (rRun S R g n W 0 N (fun _ => 0) (7, fun _ => 0)).1 ∧ (∀ i, i < W → r.2 9 i = eI ((rRun S R g n W 0 N (fun _ => 0) (7, fun _ => 0)).2 i)) ∧ ∀ i, i < 9 ∨ 13 < i → r.2 i = μ i) := by
  rw [few_eq]
  unfold fewB
  dsimp only [lt]
  refine wo_bind (wo_mono (Q := fun y => (∀ q, q < n → y.2 10 q = nI (N.1 q)) ∧ ∀ i, i ≠ 10 → y.2 i = μ i) ?_ ?_)
  · refine lpW2 n (fun t p w => p = nI t ∧ (∀ q, q < t → w 10 q = nI (N.1 q)) ∧ ∀ i, i ≠ 10 → w i = μ i) ?_ fuelN 0 _ _ (Nat.zero_le _) (fuel_ok (by omega)) ⟨rfl, fun q hq => absurd hq (Nat.not_lt_zero _), fun _ _ => rfl⟩
    rintro rec t p w ht ⟨rfl, w10, wf⟩ IH
    rw [ag3, wf 1 (by decide), h1, hG.1]
    simp only [Option.bind_some]
    refine wo_ite (fun hlt => ?_) (fun hge => ?_)
    · have htn : t < n := (nI_ltI (by omega) (by omega)).mp hlt
      rw [of0 (by omega), wf 1 (by decide), h1, hh t htn]
      simp only [Option.bind_some]
      rw [sa_nI (σ := w) (i := 10) (n := 56) (j := nI t) (k := t) rfl (by omega) (by decide), nI_1]
      simp only [Option.bind_some]
      refine IH _ _ htn ⟨rfl, fun q hq => ?_, fun i hi => by rw [up_pl hi]; exact wf i hi⟩
      by_cases hqt : q = t
      · subst hqt; rw [up_at]
      · rw [up_off hqt]; exact w10 q (by omega)
    · have : t = n := by
        have : ¬ t < n := fun q => hge (nI_lt q (by omega))
        omega
      subst this
      refine wo_some ?_
      try dsimp only
      exact ⟨w10, wf⟩
  · rintro ⟨y1, y⟩ ⟨y10, yf⟩
    dsimp only at y10 yf ⊢
    have y1' : y 1 = m := (yf 1 (by decide)).trans h1
    rw [those4 (μ := y) (n := n) (by rw [y1']; exact hG.1) hn (by rw [y1']; exact hWm), y1']
    simp only [Option.bind_some]
    rw [sa_nI (σ := y) (i := 11) (n := 8) (j := 0) (k := 0) rfl (by decide) (by decide)]
    simp only [Option.bind_some]
    rw [ag_m (j := 5) (k := 5) rfl (by decide), up_pl (by decide), y1', hf]
    simp only [Option.bind_some]
    rw [sa_nI (i := 12) (n := 8) (j := 0) (k := 0) rfl (by decide) (by decide)]
    simp only [Option.bind_some]
    rw [sa_nI (i := 13) (n := 8) (j := 0) (k := 0) rfl (by decide) (by decide)]
    simp only [Option.bind_some]
    have k13 : up (up (up y 11 0 (nI (bs (fB m) n))) 12 0 (nI N.2.2)) 13 0 (-2) 13 0 = -2 := up_at
    have k12 : up (up (up y 11 0 (nI (bs (fB m) n))) 12 0 (nI N.2.2)) 13 0 (-2) 12 0 = nI N.2.2 := by rw [up_pl (by decide), up_at]
    have k11 : up (up (up y 11 0 (nI (bs (fB m) n))) 12 0 (nI N.2.2)) 13 0 (-2) 11 0 = nI (bs N.2.1 n) := by rw [up_pl (by decide), up_pl (by decide), up_at, hB]
    have kf : ∀ i, i ≠ 11 → i ≠ 12 → i ≠ 13 → up (up (up y 11 0 (nI (bs (fB m) n))) 12 0 (nI N.2.2)) 13 0 (-2) i = y i := fun i a b c => by rw [up_pl c, up_pl b, up_pl a]
    generalize up (up (up y 11 0 (nI (bs (fB m) n))) 12 0 (nI N.2.2)) 13 0 (-2) = κ at k13 k12 k11 kf
    have hL : LM R n 0 N (fun _ => 0) m κ := ⟨by rw [kf 1 (by decide) (by decide) (by decide)]; exact y1', by rw [kf 0 (by decide) (by decide) (by decide), yf 0 (by decide)]; exact h21, fun p hp => by rw [kf 10 (by decide) (by decide) (by decide), show 7 * 0 + p = p by omega]; exact y10 p hp, k12, k11, fun i hi => absurd hi (Nat.not_lt_zero _)⟩
    obtain ⟨c, u, hc, uF, uA, uL⟩ := refL (S := S) (g := g) hn hW hG W 0 N (fun _ => 0) (2000000000, fun _ => 0) κ (by omega) hN hL (fun h => absurd h (by decide)) k13 (by decide)
    have hc2 := rC_le n (by omega) W (by omega)
    have e0 : loop3 (rBody (nI W)) fuelN (2000000000 : Int32) (0 : Int32) κ = some (nI (rRun S R g n W 0 N (fun _ => 0) (2000000000, fun _ => 0)).1, nI 0 + -1, u) := by
      obtain ⟨F, hF⟩ : ∃ F, fuelN = (F + 1) + c := ⟨fuelN - 1 - c, by unfold fuelN; omega⟩
      rw [hF]
      refine (uL (F + 1)).trans ?_
      rw [loop3_s]
      unfold rBody
      rw [if_neg (show ¬ (0 : Int32) ≤ nI 0 + -1 by decide)]
    rw [e0]
    simp only [Option.bind_some]
    rw [rRun_any hn W 0 N (fun _ => 0) (2000000000, fun _ => 0) (7, fun _ => 0) (by decide) (by decide)] at uA ⊢
    refine wo_some ?_
    try dsimp only
    refine ⟨rfl, uA (rRun_6 hn _ _ _ _ _), fun i hi => ?_⟩
    rw [uF.1 i hi, kf i (by omega) (by omega) (by omega), yf i (by omega)]

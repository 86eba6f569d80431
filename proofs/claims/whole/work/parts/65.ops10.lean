/-! LAYER 2: RESTS, ODDS, RING -/
def spk (L : Int32) (k : Nat) : Int32 := if 2 ≤ k then 0 else if k = 0 then L - 5 else 3
def hek (S : Int32) (k : Nat) : Int32 := if k = 0 then 9 - S else if k = 1 then 1 else if k = 2 then -2 else 0
theorem four {P : Nat → Prop} (h0 : P 0) (h1 : P 1) (h2 : P 2) (h3 : P 3) {k : Nat} (hk : k < 4) : P k := by
  rcases (show k = 0 ∨ k = 1 ∨ k = 2 ∨ k = 3 by omega) with rfl | rfl | rfl | rfl <;> assumption
theorem spk11 {σ μ : St} {n i j k : Nat} (hV : RVd (vd σ 44) (μ 1) n) (hi : i < n) (hj : j < n) (hij : i ≠ j) (hk : k < 4) : q11_speakerHas σ (nI k) (nI i) (nI j) = some (spk (μ 1 (63 + 7 * j + i)) k) := by
  have hn := hV.1.1
  have e : q10_likingOf σ 44 (nI j) (nI i) = some (μ 1 (63 + 7 * j + i)) := by
    rw [likingOf_ne (by omega) (by omega) (Ne.symm hij)]
    exact congrArg some (hV.2.2.2.1 j i hj hi (Ne.symm hij))
  unfold q11_speakerHas
  rw [e]
  revert k
  intro k hk
  exact four (P := fun k => (if (2 : Int32) ≤ nI k then some 0 else Option.bind (if nI k = 0 then Option.bind (some (μ 1 (63 + 7 * j + i))) fun x11_ => some (x11_ - 5) else some (3 : Int32)) fun x5_ => some x5_) = some (spk (μ 1 (63 + 7 * j + i)) k)) rfl rfl rfl rfl hk
theorem hek11 {σ μ : St} {n j k : Nat} (hV : RVd (vd σ 44) (μ 1) n) (hj : j < n) (hk : k < 4) : q11_hecklerHas σ (nI k) (nI j) = some (hek (μ 1 (14 + 7 * j + 2)) k) := by
  unfold q11_hecklerHas
  rw [hV.h3 hj]
  exact four (P := fun k => (if nI k = 0 then Option.bind (some (μ 1 (14 + 7 * j + 2))) fun x4_ => some (9 - x4_) else if nI k = 1 then some 1 else if nI k = 2 then some (-2) else some 0) = some (hek (μ 1 (14 + 7 * j + 2)) k)) rfl rfl rfl rfl hk
theorem spk12 {ν : St} {i j k : Nat} {a b : Int32} (hi : i < 6) (hj : j < 6) (hij : i ≠ j) (hk : k < 4) (ha : a = nI (k / 2)) (hb : b = nI (k % 2)) : q12_speakerHas ν (nI i) (nI j) a b = some (spk (ν 1 (63 + 7 * j + i)) k) := by
  subst ha hb
  unfold q12_speakerHas
  rw [liking_ne (by omega) (by omega) (Ne.symm hij)]
  exact four (P := fun k => (if nI (k / 2) = 1 then some 0 else Option.bind (if nI (k % 2) = 0 then Option.bind (some (ν 1 (63 + 7 * j + i))) fun x11_ => some (x11_ - 5) else some (3 : Int32)) fun x5_ => some x5_) = some (spk (ν 1 (63 + 7 * j + i)) k)) rfl rfl rfl rfl hk
theorem oth12 {ν : St} {j k : Nat} {a b : Int32} (hj : j < 6) (hk : k < 4) (ha : a = nI (k / 2)) (hb : b = nI (k % 2)) : q12_otherHas ν (nI j) a b = some (hek (ν 1 (14 + 7 * j + 2)) k) := by
  subst ha hb
  unfold q12_otherHas
  rw [of2 (by omega)]
  exact four (P := fun k => (if nI (k / 2) = 1 then some (if nI (k % 2) = 0 then -2 else 0) else Option.bind (if nI (k % 2) = 0 then Option.bind (some (ν 1 (14 + 7 * j + 2))) fun x16_ => some (9 - x16_) else some (1 : Int32)) fun x10_ => some x10_) = some (hek (ν 1 (14 + 7 * j + 2)) k)) rfl rfl rfl rfl hk
theorem op_rests {LR : LRT} : Op_rests (RR LR) := by
  intro σ μ hR p o
  obtain ⟨n, hN, hV, hW⟩ := hR.nn
  have hn := hN.1
  unfold q11_rests q12_rests
  dsimp only [lt]
  rcases two_cases hN p o with ⟨h1, h2⟩ | ⟨h1, h2⟩ | ⟨i, j, hi, hj, hij, rfl, rfl, h1, h2⟩
  · rw [h1, h2]
    exact ⟨(.inl 2, σ), (0, up μ 0 0 1), rfl, by simp only [Option.bind_some, up_at, if_pos lt01], sx_thr (i := 0) (by decide) (by decide) rfl, hR.t0⟩
  · rw [h1, h2]
    exact ⟨(.inl 0, σ), (0, up μ 0 0 2), rfl, by simp only [Option.bind_some, up_at, if_pos lt02], sx_thr (i := 1) (by decide) (by decide) rfl, hR.t0⟩
  · rw [h1, h2]
    simp only [thN, Option.bind_some, up_at, if_neg lt0]
    rw [of3 (by omega), of4 (by omega), up0_1]
    unfold q10_runners
    rw [isIn_and _ _ (by omega), isIn_not _ (by omega), hV.hs hi, hV.hb hi]
    simp only [Option.bind_some]
    rcases wS hW hi with ⟨s1, s2⟩ | ⟨s1, s2⟩
    · rw [s1, s2]
      exact ⟨(.inl 1, σ), (0, up (up μ 0 0 0) 0 0 3), rfl, by simp only [Option.bind_some, if_true, up_at, if_pos lt03], sx_thr (i := 2) (by decide) (by decide) rfl, hR.t0.t0⟩
    · rcases wB hW hi with ⟨b1, b2⟩ | ⟨b1, b2⟩
      · rw [s1, s2, b1, b2]
        simp only [Bool.not_false, Bool.and_true, not_true_eq_false, if_false, one_ne_zero32, Option.bind_some, Bool.false_eq_true]
        rw [if_neg (show ¬ (0 : Int32) = 1 by decide)]
        simp only [Option.bind_some, Bool.false_eq_true, if_false, up_at, if_neg lt0]
        have hup : up (up μ 0 0 0) 0 0 0 1 = μ 1 := up0_1.trans up0_1
        have key : R2 (loop2 (fun (rec10_ : Int32 → Int32 → Option (Int32 × Int32)) (bits13_ : Int32) (choice14_ : Int32) =>
            if choice14_ < 4 then
            Option.bind (Option.bind (q11_speakerHas σ choice14_ (nI i) (nI j)) fun x26_ =>
            Option.bind (q11_speakerHas σ (choice14_ ^^^ 2) (nI i) (nI j)) fun x28_ =>
            if x28_ ≤ x26_ then (some true) else (some false)) fun x21_ =>
            Option.bind (Option.bind (q11_hecklerHas σ choice14_ (nI j)) fun x37_ =>
            Option.bind (q11_hecklerHas σ (choice14_ ^^^ 1) (nI j)) fun x39_ =>
            if x39_ ≤ x37_ then (some true) else (some false)) fun x32_ =>
            rec10_ (if (x21_ = true) ∧ (x32_ = true) then bits13_ ||| (shl 1 choice14_) else bits13_) (choice14_ + 1)
            else (some (bits13_, choice14_))) fuelN (0 : Int32) (0 : Int32))
            (loop2 (fun (rec30_ : Int32 → Int32 → Option (Int32 × Int32)) (set33_ : Int32) (k34_ : Int32) =>
            if k34_ < 4 then
            Option.bind (Option.bind (Option.bind (q12_speakerHas (up (up μ 0 0 0) 0 0 0) (nI i) (nI j) (1 - k34_ / 2) (irm k34_ 2)) fun x52_ =>
            Option.bind (q12_speakerHas (up (up μ 0 0 0) 0 0 0) (nI i) (nI j) (k34_ / 2) (irm k34_ 2)) fun x54_ =>
            if x52_ ≤ x54_ then (Option.bind (q12_otherHas (up (up μ 0 0 0) 0 0 0) (nI j) (k34_ / 2) (1 - irm k34_ 2)) fun x57_ =>
            Option.bind (q12_otherHas (up (up μ 0 0 0) 0 0 0) (nI j) (k34_ / 2) (irm k34_ 2)) fun x59_ =>
            if x57_ ≤ x59_ then (some true) else (some false)) else (some false)) fun t50_ =>
            if t50_ = true then some (set33_ ||| (shl 1 k34_)) else (some (set33_))) fun y45_ =>
            rec30_ y45_ (k34_ + 1)
            else (some (set33_, k34_))) fuelN (0 : Int32) (0 : Int32)) (fun a b => a.1 = b.1) := by
          refine lpR22 4 (fun k a p b q => p = nI k ∧ q = nI k ∧ a = b) ?_ fuelN fuelN 0 0 0 0 0 (Nat.zero_le _) (fuel_ok (by omega)) (fuel_ok (by omega)) ⟨rfl, rfl, rfl⟩
          rintro u v k a p b q hk ⟨rfl, rfl, rfl⟩ IH
          refine r2_ite Iff.rfl (fun hlt => ?_) (fun _ => r2_some rfl)
          have hk4 : k < 4 := (nI_ltI (b := 4) (by omega) (by omega)).mp hlt
          have x2 : nI k ^^^ 2 = nI (k ^^^ 2) := four (P := fun k => nI k ^^^ 2 = nI (k ^^^ 2)) (by decide) (by decide) (by decide) (by decide) hk4
          have x1 : nI k ^^^ 1 = nI (k ^^^ 1) := four (P := fun k => nI k ^^^ 1 = nI (k ^^^ 1)) (by decide) (by decide) (by decide) (by decide) hk4
          have l2 : k ^^^ 2 < 4 := four (P := fun k => k ^^^ 2 < 4) (by decide) (by decide) (by decide) (by decide) hk4
          have l1 : k ^^^ 1 < 4 := four (P := fun k => k ^^^ 1 < 4) (by decide) (by decide) (by decide) (by decide) hk4
          have y1 : nI k / 2 = nI (k / 2) := four (P := fun k => nI k / 2 = nI (k / 2)) (by decide) (by decide) (by decide) (by decide) hk4
          have y2 : irm (nI k) 2 = nI (k % 2) := four (P := fun k => irm (nI k) 2 = nI (k % 2)) (by decide) (by decide) (by decide) (by decide) hk4
          have y3 : 1 - nI (k / 2) = nI ((k ^^^ 2) / 2) := four (P := fun k => 1 - nI (k / 2) = nI ((k ^^^ 2) / 2)) (by decide) (by decide) (by decide) (by decide) hk4
          have y4 : nI (k % 2) = nI ((k ^^^ 2) % 2) := four (P := fun k => nI (k % 2) = nI ((k ^^^ 2) % 2)) (by decide) (by decide) (by decide) (by decide) hk4
          have y5 : 1 - nI (k % 2) = nI ((k ^^^ 1) % 2) := four (P := fun k => 1 - nI (k % 2) = nI ((k ^^^ 1) % 2)) (by decide) (by decide) (by decide) (by decide) hk4
          have y6 : nI (k / 2) = nI ((k ^^^ 1) / 2) := four (P := fun k => nI (k / 2) = nI ((k ^^^ 1) / 2)) (by decide) (by decide) (by decide) (by decide) hk4
          rw [x2, x1, y1, y2, spk11 hV hi hj hij hk4, spk11 hV hi hj hij l2, hek11 hV hj hk4, hek11 hV hj l1, spk12 (by omega) (by omega) hij l2 y3 y4, spk12 (by omega) (by omega) hij hk4 rfl rfl, oth12 (by omega) l1 y6 y5, oth12 (by omega) hk4 rfl rfl, hup]
          simp only [Option.bind_some]
          by_cases c1 : spk (μ 1 (63 + 7 * j + i)) (k ^^^ 2) ≤ spk (μ 1 (63 + 7 * j + i)) k
          · by_cases c2 : hek (μ 1 (14 + 7 * j + 2)) (k ^^^ 1) ≤ hek (μ 1 (14 + 7 * j + 2)) k
            · simp only [if_pos c1, if_pos c2, Option.bind_some, and_self, if_true]
              rw [nI_1]
              exact IH _ _ _ _ hk4 ⟨rfl, rfl, rfl⟩
            · simp only [if_pos c1, if_neg c2, Option.bind_some, Bool.false_eq_true, and_false, if_false]
              rw [nI_1]
              exact IH _ _ _ _ hk4 ⟨rfl, rfl, rfl⟩
          · by_cases c2 : hek (μ 1 (14 + 7 * j + 2)) (k ^^^ 1) ≤ hek (μ 1 (14 + 7 * j + 2)) k
            · simp only [if_neg c1, if_pos c2, Option.bind_some, Bool.false_eq_true, false_and, if_false]
              rw [nI_1]
              exact IH _ _ _ _ hk4 ⟨rfl, rfl, rfl⟩
            · simp only [if_neg c1, if_neg c2, Option.bind_some, Bool.false_eq_true, false_and, if_false]
              rw [nI_1]
              exact IH _ _ _ _ hk4 ⟨rfl, rfl, rfl⟩
        obtain ⟨⟨a, a'⟩, ⟨b, b'⟩, e1, e2, e3⟩ := key
        dsimp only at e3
        subst e3
        have e1' := e1
        have e2' := e2
        rw [e1', e2']
        exact ⟨_, _, rfl, rfl, sx_ok up_at, hR.t0.t0⟩
      · rw [s1, s2, b1, b2]
        exact ⟨(.inl 1, σ), (0, up (up μ 0 0 0) 0 0 3), rfl, by simp only [Option.bind_some, one_ne_zero32, if_false, if_true, up_at, if_pos lt03], sx_thr (i := 2) (by decide) (by decide) rfl, hR.t0.t0⟩
/-! ring -/
/-- whom one would pass to: none, or another -/
theorem pass_ok {σ μ ν : St} {n i : Nat} (hV : RVd (vd σ 44) (μ 1) n) (hW : WFm (μ 1) n) (h1 : ν 1 = μ 1) (hi : i < n) : ∃ x : Int32, (x = -1 ∨ ∃ j, j < n ∧ x = nI j) ∧ q10_wouldPass σ 44 (nI i) = some x ∧ q12_passesTo ν (nI i) = some x := by
  have hn := hV.1.1
  have h8 : σ 44 8 = nI n := hV.1.2.1
  have h3 : μ 1 3 = nI n := hV.1.2.2
  have hpull : ∀ k, k < n → k ≠ i → ∃ s, s ≤ 18 ∧ μ 1 (63 + 7 * i + k) + μ 1 (14 + 7 * k) = nI s := fun k hk hki => by
    obtain ⟨a, ha, ea⟩ := hW.2.1 i k hi hk (Ne.symm hki)
    obtain ⟨b, hb, eb⟩ := (hW.1 k hk).1
    exact ⟨a + b, by omega, by rw [ea, eb, nI_add]⟩
  have key : R2 (q10_wouldPass σ 44 (nI i)) (q12_passesTo ν (nI i)) (fun a b => a = b ∧ (a = -1 ∨ ∃ j, j < n ∧ a = nI j)) := by
    unfold q10_wouldPass q12_passesTo
    dsimp only [lt]
    refine r2_bind ?_
    refine lpR32 n (fun k a m p b q => p = nI k ∧ q = nI k ∧ a = b ∧ ((a = -1 ∧ m = -1) ∨ ∃ j, j < n ∧ j ≠ i ∧ a = nI j ∧ m = μ 1 (63 + 7 * i + j) + μ 1 (14 + 7 * j))) ?_ fuelN fuelN 0 (-1) (-1) 0 (-1) 0 (Nat.zero_le _) (fuel_ok (by omega)) (fuel_ok (by omega)) ⟨rfl, rfl, rfl, Or.inl ⟨rfl, rfl⟩⟩
    rintro u v k a m p b q hk ⟨rfl, rfl, rfl, ha⟩ IH
    refine r2_R ag3 ?_
    rw [h8, h1, h3]
    refine r2_ite Iff.rfl (fun hlt => ?_) (fun _ => r2_some (r2_some ⟨rfl, ha.imp And.left (fun ⟨j, x1, _, x3, _⟩ => ⟨j, x1, x3⟩)⟩))
    have hkn : k < n := (nI_ltI (by omega) (by omega)).mp hlt
    rw [hV.h1 hkn, hV.hb hkn, of4 (by omega), of0 (by omega), h1]
    by_cases hki : k = i
    · subst hki
      rw [likingOf_eq]
      simp only [Option.bind_some, if_true, not_true_eq_false, false_and, if_false]
      rw [nI_1]
      exact IH _ _ _ _ _ hkn ⟨rfl, rfl, rfl, ha⟩
    · have hne := nIe (p := k) (o := i) (by omega) (by omega) hki
      have el : q10_likingOf σ 44 (nI i) (nI k) = some (μ 1 (63 + 7 * i + k)) := by
        rw [likingOf_ne (by omega) (by omega) (Ne.symm hki)]
        exact congrArg some (hV.2.2.2.1 i k hi hkn (Ne.symm hki))
      rw [el, if_neg hne]
      simp only [Option.bind_some, eq_false hne, not_false_eq_true, true_and]
      rcases wB hW hkn with ⟨b1, b2⟩ | ⟨b1, b2⟩
      · rw [b1, b2, if_neg (show ¬ (0 : Int32) = 1 by decide)]
        simp only [Option.bind_some, Bool.false_eq_true, not_false_eq_true, true_and, if_false]
        rcases ha with ⟨rfl, rfl⟩ | ⟨j, hj, hji, rfl, rfl⟩
        · obtain ⟨s, hs, es⟩ := hpull k hkn hki
          have hm : (-1 : Int32) < μ 1 (63 + 7 * i + k) + μ 1 (14 + 7 * k) := by
            rw [es, Int32.lt_iff_toInt_lt, m1_toInt, nI_toInt (by omega)]
            omega
          simp only [if_pos hm, if_true, Option.bind_some]
          rw [nI_1]
          exact IH _ _ _ _ _ hkn ⟨rfl, rfl, rfl, Or.inr ⟨k, hkn, hki, rfl, rfl⟩⟩
        · rw [if_neg (nI_m1 (by omega)), liking_ne (by omega) (by omega) (Ne.symm hki), liking_ne (by omega) (by omega) (Ne.symm hji), of0 (by omega), h1]
          simp only [Option.bind_some]
          by_cases hc : μ 1 (63 + 7 * i + j) + μ 1 (14 + 7 * j) < μ 1 (63 + 7 * i + k) + μ 1 (14 + 7 * k)
          · simp only [if_pos hc, if_true, Option.bind_some]
            rw [nI_1]
            exact IH _ _ _ _ _ hkn ⟨rfl, rfl, rfl, Or.inr ⟨k, hkn, hki, rfl, rfl⟩⟩
          · simp only [if_neg hc, Bool.false_eq_true, if_false, Option.bind_some]
            rw [nI_1]
            exact IH _ _ _ _ _ hkn ⟨rfl, rfl, rfl, Or.inr ⟨j, hj, hji, rfl, rfl⟩⟩
      · rw [b1, b2]
        simp only [if_true, Option.bind_some, not_true_eq_false, false_and, if_false]
        rw [nI_1]
        exact IH _ _ _ _ _ hkn ⟨rfl, rfl, rfl, ha⟩
  obtain ⟨a, b, e1, e2, rfl, h⟩ := key
  exact ⟨a, h, e1, e2⟩
/-- the house of pigeons -/
theorem pigeon : ∀ (N : Nat) (f : Nat → Nat), (∀ i, i ≤ N → f i < N) → ∃ i j, i < j ∧ j ≤ N ∧ f i = f j
  | 0, f, h => absurd (h 0 (Nat.le_refl _)) (Nat.not_lt_zero _)
  | N + 1, f, h => by
    by_cases hx : ∃ i, i < N + 1 ∧ f i = f (N + 1)
    · obtain ⟨i, h1, h2⟩ := hx
      exact ⟨i, N + 1, h1, Nat.le_refl _, h2⟩
    · have hne : ∀ i, i < N + 1 → f i ≠ f (N + 1) := fun i hi e => hx ⟨i, hi, e⟩
      obtain ⟨i, j, h1, h2, h3⟩ := pigeon N (fun i => if f i < f (N + 1) then f i else f i - 1) (fun i hi => by
        have a1 := h i (by omega)
        have a2 := h (N + 1) (Nat.le_refl _)
        have a3 := hne i (by omega)
        split <;> omega)
      refine ⟨i, j, h1, by omega, ?_⟩
      have b1 := hne i (by omega)
      have b2 := hne j (by omega)
      split at h3 <;> split at h3 <;> omega
def itr (F : Int32 → Int32) (p : Int32) : Nat → Int32
  | 0 => p
  | k + 1 => F (itr F p k)
theorem itr_s {F : Int32 → Int32} {p : Int32} {k : Nat} : itr F p (k + 1) = F (itr F p k) := rfl
theorem itr_add {F : Int32 → Int32} {p : Int32} {a b : Nat} (h : itr F p a = itr F p b) : ∀ c, itr F p (a + c) = itr F p (b + c)
  | 0 => h
  | c + 1 => by rw [← Nat.add_assoc, ← Nat.add_assoc, itr_s, itr_s, itr_add h c]
def Rg (a : Nat → Int32) (p : Int32) : Prop := ∃ t, 1 ≤ t ∧ t ≤ 6 ∧ a t = p ∧ ∀ s, s < t → a s ≠ -1
theorem op_ring {LR : LRT} : Op_ring (RR LR) := by
  intro σ μ hR p
  obtain ⟨n, hN, hV, hW⟩ := hR.nn
  have hn := hN.1
  rcases one_cases hN p with ⟨h1, h2⟩ | ⟨i, hi, rfl, h1, h2⟩
  · unfold q11_ring q12_ring
    dsimp only [lt]
    rw [h1, h2]
    exact ⟨(.inl 2, σ), (false, up μ 0 0 1), rfl, by simp only [Bool.false_eq_true, not_false_eq_true, if_true, up_at, if_pos lt01, Option.bind_some], sx_thr (i := 0) (by decide) (by decide) rfl, hR.t0⟩
  · obtain ⟨F, hF⟩ : ∃ F : Int32 → Int32, F = fun x => (q12_passesTo (up μ 0 0 0) x).getD (-1) := ⟨_, rfl⟩
    have hp : ∀ j, j < n → (F (nI j) = -1 ∨ ∃ k, k < n ∧ F (nI j) = nI k) ∧ q10_wouldPass σ 44 (nI j) = some (F (nI j)) ∧ q12_passesTo (up μ 0 0 0) (nI j) = some (F (nI j)) := fun j hj => by
      obtain ⟨x, x1, x2, x3⟩ := pass_ok (ν := up μ 0 0 0) hV hW up0_1 hj
      have e : F (nI j) = x := by
        rw [hF]
        show (q12_passesTo (up μ 0 0 0) (nI j)).getD (-1) = x
        rw [x3]
        rfl
      rw [e]
      exact ⟨x1, x2, x3⟩
    have hin : ∀ k, (∀ s, s < k → itr F (nI i) s ≠ -1) → itr F (nI i) k = -1 ∨ ∃ j, j < n ∧ itr F (nI i) k = nI j := by
      intro k
      induction k with
      | zero => exact fun _ => Or.inr ⟨i, hi, rfl⟩
      | succ k ih =>
        intro h
        obtain ⟨j, hj, ej⟩ := (ih (fun s hs => h s (by omega))).resolve_left (h k (by omega))
        rw [itr_s, ej]
        exact (hp j hj).1
    have him : ¬ (-1 : Int32) = nI i := fun e => nI_m1 (by omega) e.symm
    have hC : Wo (q11_ring σ (nI i)) (fun r => ∃ b : Bool, r = (.inr b, σ) ∧ (b = true ↔ Rg (itr F (nI i)) (nI i))) := by
      unfold q11_ring
      dsimp only [lt]
      rw [h1]
      show Wo (Option.bind (loop2 _ _ _ _) _) _
      refine wo_bind ?_
      refine lpW2 6 (fun k a q => a = itr F (nI i) k ∧ q = nI k ∧ (∀ s, s < k → itr F (nI i) s ≠ -1) ∧ ∀ s, 1 ≤ s → s ≤ k → itr F (nI i) s ≠ nI i) ?_ fuelN 0 (nI i) 0 (Nat.zero_le _) (fuel_ok (by omega)) ⟨rfl, rfl, fun s hs => absurd hs (Nat.not_lt_zero _), fun s h1 h2 => absurd (Nat.le_trans h1 h2) (by decide)⟩
      rintro rec k a q hk ⟨rfl, rfl, hm, hne⟩ IH
      refine wo_ite (fun hc => ?_) (fun hc => ?_)
      · have hk6 : k < 6 := (nI_ltI (b := 6) (by omega) (by omega)).mp hc.1
        obtain ⟨j, hj, ej⟩ := (hin k hm).resolve_left hc.2
        have es : itr F (nI i) (k + 1) = F (nI j) := by rw [itr_s, ej]
        rw [ej, (hp j hj).2.1]
        simp only [Option.bind_some]
        have hm2 : ∀ s, s < k + 1 → itr F (nI i) s ≠ -1 := fun s hs => by
          by_cases hsk : s = k
          · rw [hsk]; exact hc.2
          · exact hm s (by omega)
        by_cases hx : F (nI j) = nI i
        · rw [if_pos hx]
          exact wo_some (wo_some ⟨true, rfl, fun _ => ⟨k + 1, by omega, by omega, by rw [es]; exact hx, hm2⟩, fun _ => rfl⟩)
        · rw [if_neg hx, nI_1, ← es]
          refine IH _ _ hk6 ⟨rfl, rfl, hm2, fun s s1 s2 => ?_⟩
          by_cases hsk : s = k + 1
          · rw [hsk, es]; exact hx
          · exact hne s s1 (by omega)
      · refine wo_some (wo_some ⟨false, rfl, fun h => (by cases h), fun ⟨t, t1, t2, t3, t4⟩ => ?_⟩)
        exfalso
        by_cases htk : t ≤ k
        · exact hne t t1 htk t3
        · have hk6 : k < 6 := by omega
          exact hc ⟨nI_lt (b := 6) hk6 (by omega), t4 k (by omega)⟩
    have hM : Wo (q12_ring μ (nI i)) (fun r => ∃ b : Bool, r = (b, up μ 0 0 0) ∧ (b = true ↔ Rg (itr F (nI i)) (nI i))) := by
      unfold q12_ring
      dsimp only [lt]
      rw [h2]
      simp only [Option.bind_some, not_true_eq_false, if_false, up_at, if_neg lt0]
      have e1 : itr F (nI i) 1 = F (nI i) := rfl
      rw [(hp i hi).2.2, ← e1]
      simp only [Option.bind_some]
      refine wo_bind ?_
      refine lpW2 6 (fun k a q => a = itr F (nI i) (k + 1) ∧ q = nI k ∧ ∀ s, 1 ≤ s → s ≤ k → itr F (nI i) s ≠ nI i ∧ itr F (nI i) s ≠ -1) ?_ fuelN 0 (itr F (nI i) 1) 0 (Nat.zero_le _) (fuel_ok (by omega)) ⟨rfl, rfl, fun s h1 h2 => absurd (Nat.le_trans h1 h2) (by decide)⟩
      rintro rec k a q hk ⟨rfl, rfl, hne⟩ IH
      have hm : ∀ s, s < k + 1 → itr F (nI i) s ≠ -1 := fun s hs => by
        by_cases h0 : s = 0
        · rw [h0]; exact fun e => him e.symm
        · exact (hne s (by omega) (by omega)).2
      refine wo_ite (fun hc => ?_) (fun hc => ?_)
      · have hk6 : k < 6 := (nI_ltI (b := 6) (by omega) (by omega)).mp hc.1.1
        obtain ⟨j, hj, ej⟩ := (hin (k + 1) hm).resolve_left hc.1.2
        have es : itr F (nI i) (k + 1 + 1) = F (nI j) := by rw [itr_s, ej]
        have c1 := hc.1.2
        have c2 := hc.2
        rw [ej, (hp j hj).2.2]
        simp only [Option.bind_some]
        rw [nI_1, ← es]
        refine IH _ _ hk6 ⟨rfl, rfl, fun s s1 s2 => ?_⟩
        by_cases hsk : s = k + 1
        · rw [hsk]; exact ⟨c2, c1⟩
        · exact hne s s1 (by omega)
      · refine wo_some (wo_some ⟨decide (itr F (nI i) (k + 1) = nI i), rfl, ?_, ?_⟩)
        · intro h
          have h := of_decide_eq_true h
          by_cases hk6 : k < 6
          · exact ⟨k + 1, by omega, by omega, h, hm⟩
          · exfalso
            have hk6 : k = 6 := by omega
            subst hk6
            have hall : ∀ s, s ≤ 6 → ∃ j, j < n ∧ itr F (nI i) s = nI j := fun s hs => (hin s (fun r hr => hm r (by omega))).resolve_left (hm s (by omega))
            obtain ⟨x, y, xy, y6, exy⟩ := pigeon 6 (fun s => (itr F (nI i) s).toNatClampNeg) (fun s hs => by
              obtain ⟨j, hj, ej⟩ := hall s hs
              show (itr F (nI i) s).toNatClampNeg < 6
              rw [ej, nI_clamp (by omega)]
              omega)
            obtain ⟨j1, hj1, ej1⟩ := hall x (by omega)
            obtain ⟨j2, hj2, ej2⟩ := hall y y6
            rw [ej1, ej2, nI_clamp (by omega), nI_clamp (by omega)] at exy
            have e12 : itr F (nI i) x = itr F (nI i) y := by rw [ej1, ej2, exy]
            have := itr_add e12 (7 - y)
            rw [show y + (7 - y) = 6 + 1 from by omega, h] at this
            exact (hne (x + (7 - y)) (by omega) (by omega)).1 this
        · rintro ⟨t, t1, t2, t3, t4⟩
          apply decide_eq_true
          by_cases htk : t ≤ k
          · exact absurd t3 (hne t t1 htk).1
          · by_cases htk2 : t = k + 1
            · rw [← htk2]; exact t3
            · exact Decidable.byContradiction (fun e => hc ⟨⟨nI_lt (b := 6) (by omega) (by omega), t4 (k + 1) (by omega)⟩, e⟩)
    obtain ⟨r1, e1, b1, rfl, f1⟩ := hC
    obtain ⟨r2, e2, b2, rfl, f2⟩ := hM
    have eb : b1 = b2 := Bool.eq_iff_iff.mpr (f1.trans f2.symm)
    subst eb
    exact ⟨_, _, e1, e2, sx_ok up_at, hR.t0⟩

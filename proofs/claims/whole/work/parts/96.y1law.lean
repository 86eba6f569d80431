/-! LAYER 2: THE LAW READ -/
theorem isB_b {x : Int32} (h : isB x) : ∃ q, x = b2i q := by
  rcases h with rfl | rfl
  · exact ⟨false, rfl⟩
  · exact ⟨true, rfl⟩
theorem b_isB (b : Bool) : isB (b2i b) := by
  cases b
  · exact Or.inl rfl
  · exact Or.inr rfl
def lwL (rec23_ : Int32 → St → Option (Int32 × St)) (k26_ : Int32) (σ27_ : St) : Option (Int32 × St) :=
  if k26_ < (σ27_ 0 10) then
  Option.bind (ag σ27_ 5 400 k26_) fun x34_ =>
  Option.bind (sa σ27_ 1 752 (352 + k26_) x34_) fun σ36_ =>
  rec23_ (k26_ + 1) σ36_
  else (some (k26_, σ27_))
theorem law_cp {μ : St} {N : Nat} (hN : N ≤ 400) (h10 : μ 0 10 = nI N) : Wo (loop2 lwL fuelN 0 μ) (fun y => (∀ k, k < N → y.2 1 (352 + k) = μ 5 k) ∧ (∀ k, k < 352 → y.2 1 k = μ 1 k) ∧ ∀ i, i ≠ 1 → y.2 i = μ i) := by
  refine lpW2 N (fun k a s => a = nI k ∧ (∀ j, j < k → s 1 (352 + j) = μ 5 j) ∧ (∀ j, j < 352 → s 1 j = μ 1 j) ∧ ∀ i, i ≠ 1 → s i = μ i) ?_ fuelN 0 0 μ (Nat.zero_le _) (fuel_ok (by omega)) ⟨rfl, fun j hj => absurd hj (Nat.not_lt_zero _), fun _ _ => rfl, fun _ _ => rfl⟩
  rintro rec k a s hk ⟨rfl, s1, s2, s3⟩ IH
  unfold lwL
  rw [show s 0 10 = nI N from by rw [s3 0 (by decide)]; exact h10]
  by_cases hkN : k < N
  · rw [if_pos (nI_lt hkN (by omega)), ag_nI (k := k) rfl (by omega) (by decide)]
    simp only [Option.bind_some]
    have e : (352 : Int32) + nI k = nI (352 + k) := nI_add (a := 352) (b := k)
    rw [e, sa_nI (k := 352 + k) rfl (by omega) (by decide)]
    simp only [Option.bind_some]
    rw [nI_1]
    refine IH _ _ hkN ⟨rfl, fun j hj => ?_, fun j hj => ?_, fun i hi => ?_⟩
    · by_cases hjk : j = k
      · rw [hjk, up_at, s3 5 (by decide)]
      · rw [up_off (by omega)]; exact s1 j (by omega)
    · rw [up_off (by omega)]; exact s2 j hj
    · rw [up_pl hi]; exact s3 i hi
  · rw [if_neg (fun q => hkN ((nI_ltI (by omega) (by omega)).mp q))]
    have : k = N := by omega
    subst this
    exact wo_some ⟨s1, s2, s3⟩
theorem law_eq {σ : St} : q12_law σ = Option.bind (q12_begins σ) (fun x1_ => Option.bind (q12_read x1_ true) fun x3_ => if 0 < (up x3_.2 0 0 (if ¬ (x3_.2 0 12) = (-1) then 1 else 0) 0 0) then (some (0, up x3_.2 0 0 (if ¬ (x3_.2 0 12) = (-1) then 1 else 0))) else Option.bind (sa (up x3_.2 0 0 (if ¬ (x3_.2 0 12) = (-1) then 1 else 0)) 1 752 1 x3_.1) fun σ16_ => Option.bind (sa σ16_ 1 752 2 (σ16_ 0 10)) fun σ18_ => Option.bind (loop2 lwL fuelN (0 : Int32) σ18_) fun y20_ => some (x3_.1, up y20_.2 0 6 0)) := by
  unfold q12_law lwL
  simp only [lt_nr]
theorem RR.err {LR : LRT} {σ σ' μ μ' : St} {e : Int32} (h : RR LR σ μ) (a1 : ∀ i, i ≠ 0 → keepC i → σ' i = σ i) (a2 : σ' 1 1 = 0) (a3 : σ' 32 3 = σ 32 3) (a4 : σ' 32 4 = σ 32 4) (a5 : σ' 0 14 = σ 0 14) (a6 : σ' 0 15 = e) (b1 : μ' 1 = μ 1) (b2 : μ' 2 = μ 2) (b4 : μ' 4 = μ 4) (s3 : μ' 0 3 = μ 0 3) (s6 : μ' 0 6 = μ 0 6) (s8 : μ' 0 8 = 0) (s12 : μ' 0 12 = e) (hf : RFl μ → RFl μ') : RR LR σ' μ' := by
  obtain ⟨h1, h2, h3, h4, h5, h6⟩ := h
  refine ⟨?_, ⟨0, by omega, a2, s8, fun k hk => absurd hk (Nat.not_lt_zero _)⟩, by rw [a6, s12], ?_, ?_, ?_⟩
  · rw [b1]
    refine h1.to ⟨?_, ?_, ?_, ?_, ?_, ?_, ?_⟩ <;> intros <;> (try show σ' _ _ = σ _ _) <;> rw [a1 _ (by omega) (by unfold keepC; omega)]
  · unfold RAe at h4 ⊢
    rw [a1 5 (by decide) (by unfold keepC; omega), b1, b4, s6]
    obtain ⟨A, f, c1, c2, c3, c4, c5, c6⟩ := h4
    refine ⟨A, f, c1, c2, c3, c4, c5, fun a ha => ⟨(c6 a ha).1.to ?_, (c6 a ha).2⟩⟩
    have hm : (f + 12 - A + a) % 12 < 12 := Nat.mod_lt _ (by omega)
    generalize (f + 12 - A + a) % 12 = j at hm
    refine ⟨?_, ?_, ?_, ?_, ?_, ?_, ?_⟩ <;> intros <;> (try show σ' _ _ = σ _ _) <;> rw [a1 _ (by omega) (by unfold keepC; omega)]
  · unfold RIe at h5 ⊢
    rw [a5, s3, b2, a1 40 (by decide) (by unfold keepC; omega), a1 41 (by decide) (by unfold keepC; omega)]
    refine ⟨hf h5.1, h5.2.imp id (fun q => ⟨q.1, q.2.1, q.2.2.1.to ?_, q.2.2.2⟩)⟩
    refine ⟨?_, ?_, ?_, ?_, ?_, ?_, ?_⟩ <;> intros <;> (try show σ' _ _ = σ _ _) <;> rw [a1 _ (by omega) (by unfold keepC; omega)]
  · rw [a3, a4, a1 33 (by decide) (by unfold keepC; omega), b1]; exact h6
theorem op_law : Op_law (RR LRx) := by
  intro σ μ hR
  obtain ⟨N, hN, t1, t2, t3⟩ := hR.2.1
  have hX : TX (cT (μ 5) N) N σ := ⟨hN, t1, fun k hk => by rw [cT_in hk]; exact (t3 k hk).1⟩
  obtain ⟨⟨g, s⟩, hg, hl⟩ := readLaw_ok hX
  have hfl := hR.2.2.2.2.1.1
  obtain ⟨q15, e15⟩ := isB_b hfl.1
  obtain ⟨q16, e16⟩ := isB_b hfl.2.1
  obtain ⟨q18, e18⟩ := isB_b hfl.2.2
  have hz : ∃ z, q12_begins μ = some z ∧ (∀ i, i ≠ 0 → z i = μ i) ∧ z 0 12 = -1 ∧ z 0 9 = -1 ∧ z 0 10 = nI N ∧ z 0 8 = 0 ∧ z 0 11 = 0 ∧ z 0 13 = 0 ∧ ∀ k, k ≠ 12 → k ≠ 9 → k ≠ 10 → k ≠ 8 → k ≠ 11 → k ≠ 13 → z 0 k = μ 0 k := by
    unfold q12_begins
    simp only [lt_nr]
    refine ⟨_, rfl, fun i hi => by rw [up_pl hi, up_pl hi, up_pl hi, up_pl hi, up_pl hi, up_pl hi], ?_, ?_, ?_, ?_, ?_, up_at, fun k k1 k2 k3 k4 k5 k6 => by rw [up_off k6, up_off k5, up_off k4, up_off k3, up_off k2, up_off k1]⟩
    · rw [up_off (by decide), up_off (by decide), up_off (by decide), up_off (by decide), up_off (by decide), up_at]
    · rw [up_off (by decide), up_off (by decide), up_off (by decide), up_off (by decide), up_at]
    · rw [up_off (by decide), up_off (by decide), up_off (by decide), up_at, up_off (by decide), up_off (by decide)]; exact t2
    · rw [up_off (by decide), up_off (by decide), up_at]
    · rw [up_off (by decide), up_at]
  obtain ⟨z, ez, zi, z12, z9, z10, z8, z11, z13, zk⟩ := hz
  have hPM : PM (cT (μ 5) N) N z 0 := ⟨⟨hN, Or.inl ⟨z9, fun k hk => by rw [zi 5 (by decide), cT_in hk]⟩, z10⟩, Nat.zero_le _, z11⟩
  have z15 : z 0 15 = b2i q15 := (zk 15 (by decide) (by decide) (by decide) (by decide) (by decide) (by decide)).trans e15
  have z16 : z 0 16 = b2i q16 := (zk 16 (by decide) (by decide) (by decide) (by decide) (by decide) (by decide)).trans e16
  have z18 : z 0 18 = b2i q18 := (zk 18 (by decide) (by decide) (by decide) (by decide) (by decide) (by decide)).trans e18
  have hF : FcS (fun j => if j < 7 then μ 6 j else if j = 7 then b2i q15 else b2i q16) z := ⟨fun j hj => by rw [zi 6 (by decide)]; exact (if_pos hj).symm, ⟨q15, z15, rfl⟩, q16, z16, rfl⟩
  unfold q11_law
  rw [hg, law_eq, ez]
  simp only [Option.bind_some]
  unfold q11_closeText
  simp only [lt_nr]
  rcases law12 hPM z12 hF z13 z18 with ⟨e, x, w, g1, g2, g3, g4, g5, g6, q, g7⟩ | ⟨ls, w, g1, g2, g3, g4, g5, g6⟩
  · rw [g1] at hl
    obtain ⟨l1, l2, l3⟩ := hl
    have l1 : g = false := l1
    subst l1
    have l3 : Fy σ s := l3
    rw [g3]
    simp only [Option.bind_some]
    rw [if_pos (show ¬ (false = true) by decide), if_pos (show ¬ w 0 12 = -1 by rw [g4]; exact nI_m1 (by omega)), up_at, if_pos (show (0 : Int32) < 1 by decide)]
    refine ⟨_, _, rfl, rfl, ⟨List.mem_singleton.mpr rfl, show up w 0 0 1 0 0 = 1 from up_at⟩, ?_⟩
    show RR LRx (up (up s 0 15 (if false = true then -1 else s 1 2)) 1 1 0) (up w 0 0 1)
    rw [if_neg (by decide)]
    refine hR.err (e := nI e) (fun i h0 hi => ?_) up_at ?_ ?_ ?_ ?_ ?_ ?_ ?_ ?_ ?_ ?_ ?_ (fun hf => ?_)
    · have hi := hi
      unfold keepC at hi
      rw [up_pl (by omega), up_pl h0]
      exact l3 i (by omega) (by omega) (by omega) (by omega) (by omega)
    · rw [up_pl (by decide), up_pl (by decide), l3 32 (by decide) (by decide) (by decide) (by decide) (by decide)]
    · rw [up_pl (by decide), up_pl (by decide), l3 32 (by decide) (by decide) (by decide) (by decide) (by decide)]
    · rw [up_pl (by decide), up_off (by decide), l3 0 (by decide) (by decide) (by decide) (by decide) (by decide)]
    · rw [up_pl (by decide), up_at]; exact l2.2.2.2.1
    · rw [up_pl (by decide), g5 1 (by decide), zi 1 (by decide)]
    · rw [up_pl (by decide), g5 2 (by decide), zi 2 (by decide)]
    · rw [up_pl (by decide), g5 4 (by decide), zi 4 (by decide)]
    · rw [up_off (by decide), g6 3 (by decide) (by decide) (by decide) (by decide) (by decide), zk 3 (by decide) (by decide) (by decide) (by decide) (by decide) (by decide)]
    · rw [up_off (by decide), g6 6 (by decide) (by decide) (by decide) (by decide) (by decide), zk 6 (by decide) (by decide) (by decide) (by decide) (by decide) (by decide)]
    · rw [up_off (by decide), g6 8 (by decide) (by decide) (by decide) (by decide) (by decide), z8]
    · rw [up_off (by decide), g4]
    · refine ⟨?_, ?_, ?_⟩
      · rw [up_off (by decide), g6 15 (by decide) (by decide) (by decide) (by decide) (by decide), z15]; exact b_isB _
      · rw [up_off (by decide), g6 16 (by decide) (by decide) (by decide) (by decide) (by decide), z16]; exact b_isB _
      · rw [up_off (by decide), g7]; exact b_isB _
  · rw [g1] at hl
    obtain ⟨l1, l2, l3, l4, l5⟩ := hl
    have l1 : g = true := l1
    subst l1
    rw [g2]
    simp only [Option.bind_some]
    have w12 : w 0 12 = -1 := by rw [g4 12 (by decide) (by decide) (by decide)]; exact z12
    have l4 : CD s (cds ls) := l4
    have l3 : s 36 4 = nI ls.length := by rw [show s 36 4 = nI (0 + ls.length) from l3, Nat.zero_add]
    have l2 : Fy σ s := l2
    obtain ⟨n1, n2, n3⟩ := law_in g1
    rw [if_neg (show ¬ ¬ True from fun q => q trivial), if_pos trivial, if_neg (show ¬ ¬ w 0 12 = -1 from fun q => q w12), up_at, if_neg (show ¬ (0 : Int32) < 0 by decide)]
    obtain ⟨τ, eτ, c1, c2, c3, c4⟩ := becl_ok (σ := up (up s 0 15 (-1)) 1 1 0) (t := 32) (s := 36) (by omega)
    rw [eτ]
    simp only [Option.bind_some]
    unfold q4_forget
    simp only [lt_nr, Option.bind_some]
    rw [show sa (up w 0 0 0) 1 752 1 (nI ls.length) = some (up (up w 0 0 0) 1 1 (nI ls.length)) from sa_nI (k := 1) rfl (by decide) (by decide)]
    simp only [Option.bind_some]
    have w10 : w 0 10 = nI N := by rw [g4 10 (by decide) (by decide) (by decide)]; exact z10
    have u10 : up (up w 0 0 0) 1 1 (nI ls.length) 0 10 = nI N := by rw [up_pl (by decide), up_off (by decide)]; exact w10
    rw [u10, show sa (up (up w 0 0 0) 1 1 (nI ls.length)) 1 752 2 (nI N) = some (up (up (up w 0 0 0) 1 1 (nI ls.length)) 1 2 (nI N)) from sa_nI (k := 2) rfl (by decide) (by decide)]
    simp only [Option.bind_some]
    obtain ⟨y, ey, y1, y2, y3⟩ := law_cp (μ := up (up (up w 0 0 0) 1 1 (nI ls.length)) 1 2 (nI N)) (N := N) hN (by rw [up_pl (by decide)]; exact u10)
    rw [ey]
    simp only [Option.bind_some]
    have y5 : ∀ k, k < N → y.2 1 (352 + k) = μ 5 k := fun k hk => by rw [y1 k hk, up_pl (by decide), up_pl (by decide), up_pl (by decide), g3 5 (by decide), zi 5 (by decide)]
    have y11 : y.2 1 1 = nI ls.length := by rw [y2 1 (by decide), up_off (by decide), up_at]
    have y12 : y.2 1 2 = nI N := by rw [y2 2 (by decide), up_at]
    have yr : ∀ k, k < 352 → k ≠ 1 → k ≠ 2 → y.2 1 k = μ 1 k := fun k h1 h2 h3 => by rw [y2 k h1, up_off h3, up_off h2, up_pl (by decide), g3 1 (by decide), zi 1 (by decide)]
    have yi : ∀ i, i ≠ 0 → i ≠ 1 → y.2 i = μ i := fun i h0 h1 => by rw [y3 i h1, up_pl h1, up_pl h1, up_pl h0, g3 i h0, zi i h0]
    have y0 : ∀ k, k ≠ 0 → y.2 0 k = w 0 k := fun k hk => by rw [y3 0 (by decide), up_pl (by decide), up_pl (by decide), up_off hk]
    have τi : ∀ i, i ≠ 0 → i ≠ 1 → i ≠ 32 → i ≠ 33 → τ i = s i := fun i h0 h1 h2 h3 => by rw [c4 i h2 h3, up_pl h1, up_pl h0]
    have τk : ∀ i, i ≠ 0 → i ≠ 33 → keepC i → τ i = σ i := fun i h0 h33 hi => by
      have hi := hi
      unfold keepC at hi
      rw [τi i h0 (by omega) (by omega) h33]
      exact l2 i (by omega) (by omega) (by omega) (by omega) (by omega)
    have τ4 : τ 32 4 = nI ls.length := by rw [c3, up_pl (by decide), up_pl (by decide)]; exact l3
    refine ⟨_, _, rfl, rfl, ⟨show up y.2 0 6 0 0 0 = 0 from ?_, show up τ 5 1 0 32 4 = nI ls.length from ?_⟩, ?_⟩
    · rw [up_off (by decide), y3 0 (by decide), up_pl (by decide), up_pl (by decide), up_at]
    · rw [up_pl (by decide)]; exact τ4
    show RR LRx (up τ 5 1 0) (up y.2 0 6 0)
    obtain ⟨h1, h2, h3, h4, h5, h6⟩ := hR
    refine ⟨?_, ⟨0, by omega, ?_, ?_, fun k hk => absurd hk (Nat.not_lt_zero _)⟩, ?_, ?_, ⟨⟨?_, ?_, ?_⟩, ?_⟩, ?_⟩
    · rw [up_pl (by decide)]
      refine (h1.to ?_).row yr
      refine ⟨?_, ?_, ?_, ?_, ?_, ?_, ?_⟩ <;> intros <;> (try show up τ 5 1 0 _ _ = σ _ _) <;> rw [up_pl (by omega), τk _ (by omega) (by omega) (by unfold keepC; omega)]
    · rw [up_pl (by decide), c4 1 (by decide) (by decide), up_at]; rfl
    · rw [up_off (by decide), y0 8 (by decide), g4 8 (by decide) (by decide) (by decide), z8]; rfl
    · rw [up_pl (by decide), c4 0 (by decide) (by decide), up_pl (by decide), up_at, up_off (by decide), y0 12 (by decide), w12]
    · obtain ⟨A, f, d1, d2, d3, d4, d5, d6⟩ := h4
      refine ⟨0, f, by omega, d2, up_at, ?_, up_at, fun a ha => absurd ha (Nat.not_lt_zero _)⟩
      rw [up_off (by decide), τk 5 (by decide) (by decide) (by unfold keepC; omega)]; exact d4
    · rw [up_off (by decide), y0 15 (by decide), g4 15 (by decide) (by decide) (by decide), z15]; exact b_isB _
    · rw [up_off (by decide), y0 16 (by decide), g4 16 (by decide) (by decide) (by decide), z16]; exact b_isB _
    · rw [up_off (by decide), y0 18 (by decide), g6]; exact b_isB _
    · have e14 : up τ 5 1 0 0 14 = σ 0 14 := by rw [up_pl (by decide), c4 0 (by decide) (by decide), up_pl (by decide), up_off (by decide), l2 0 (by decide) (by decide) (by decide) (by decide) (by decide)]
      have e3 : up y.2 0 6 0 0 3 = μ 0 3 := by rw [up_off (by decide), y0 3 (by decide), g4 3 (by decide) (by decide) (by decide), zk 3 (by decide) (by decide) (by decide) (by decide) (by decide) (by decide)]
      rw [e14, e3, up_pl (by decide), up_pl (by decide), up_pl (by decide), yi 2 (by decide) (by decide), τk 40 (by decide) (by decide) (by unfold keepC; omega), τk 41 (by decide) (by decide) (by unfold keepC; omega)]
      refine h5.2.imp id (fun q => ⟨q.1, q.2.1, q.2.2.1.to ?_, q.2.2.2⟩)
      refine ⟨?_, ?_, ?_, ?_, ?_, ?_, ?_⟩ <;> intros <;> (try show up τ 5 1 0 _ _ = σ _ _) <;> rw [up_pl (by omega), τk _ (by omega) (by omega) (by unfold keepC; omega)]
    · rw [up_pl (by decide), up_pl (by decide), up_pl (by decide), y11, y12, τ4]
      refine Or.inr ⟨N, ls, hN, rfl, ?_, rfl, rfl, ?_, by omega, fun k hk => ?_⟩
      · rw [cT_cg (t := μ 5) (fun k hk => y5 k hk)]; exact g1
      · rw [c2, up_pl (by decide), up_pl (by decide)]; exact l4.1
      · rw [c1 k (by omega), up_pl (by decide), up_pl (by decide)]; exact l4.2 k hk

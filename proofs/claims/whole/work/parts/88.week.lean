/-! LAYER 2: A WEEK -/
theorem bc_or : ∀ a, a < 64 → ∀ p, p < 6 → a.testBit p = false → bcount (nI a ||| shl 1 (nI p)) = bcount (nI a) + 1 := by decide +kernel
theorem sub_up (x y : Int32) : x - y + 1 = x + 1 - y := by
  rw [Int32.sub_eq_add_neg, Int32.sub_eq_add_neg, Int32.add_assoc, Int32.add_assoc, Int32.add_comm (-y)]
theorem sub_tel (x y z : Int32) : (y - x) + (z - y) = z - x := by
  rw [Int32.sub_eq_add_neg, Int32.sub_eq_add_neg, Int32.sub_eq_add_neg, Int32.add_comm y (-x), Int32.add_assoc, ← Int32.add_assoc y z, Int32.add_comm y z, Int32.add_assoc z y, Int32.add_right_neg, Int32.add_zero, Int32.add_comm]
theorem seat_ok {v n : Nat} {w z : St} (hv : v = 44 ∨ v = 54) (h : Wk v n w z) : R2 (q0_seatStarved w v) (loop3 (fun rec8_ (n11_ : Int32) (p12_ : Int32) (σ13_ : St) =>
  Option.bind (ag σ13_ 1 752 3) fun x18_ =>
  if p12_ < x18_ then
  Option.bind (Option.bind (q12_of σ13_ p12_ 4) fun x26_ =>
  if x26_ = 1 then (some true) else (Option.bind (q12_of σ13_ p12_ 0) fun x29_ =>
  if x29_ < 9 then (some true) else (some false))) fun t24_ =>
  if t24_ = true then (rec8_ n11_ (p12_ + 1) σ13_) else
  Option.bind (q12_lays σ13_ p12_ 4 1) fun x33_ =>
  Option.bind (q12_logs x33_ 1 p12_ 0) fun x35_ =>
  rec8_ (n11_ + 1) (p12_ + 1) x35_
  else (some (n11_, p12_, σ13_))) fuelN (0 : Int32) (0 : Int32) z) (fun a y => Wk v n a y.2.2 ∧ Fw v w z a y.2.2 ∧ y.1 = bcount (a v 10) - bcount (w v 10) ∧ ∀ p, p < 6 → q11_isIn (w v 10) (nI p) = true → q11_isIn (a v 10) (nI p) = true) := by
  have hn := h.1.1.1
  unfold q0_seatStarved
  dsimp only [lt]
  have key : R2 (loop2 (fun rec4_ (p7_ : Int32) (σ8_ : St) =>
  if p7_ < (σ8_ v 8) then
  Option.bind (Option.bind (if q11_isIn (σ8_ v 10) p7_ = true then (some false) else (Option.bind (ag σ8_ (v + 1) 6 p7_) fun x23_ =>
  if x23_ = 9 then (some true) else (some false))) fun t20_ =>
  if t20_ = true then (Option.bind (q3_write (up σ8_ v 10 ((σ8_ v 10) ||| (shl 1 p7_))) (v + 8) (up σ8_ v 10 ((σ8_ v 10) ||| (shl 1 p7_)) v 12) 1 p7_ 0) fun x29_ =>
  some (x29_)) else (some (σ8_))) fun y15_ =>
  rec4_ (p7_ + 1) y15_
  else (some (p7_, σ8_))) fuelN (0 : Int32) w) (loop3 (fun rec8_ (n11_ : Int32) (p12_ : Int32) (σ13_ : St) =>
  Option.bind (ag σ13_ 1 752 3) fun x18_ =>
  if p12_ < x18_ then
  Option.bind (Option.bind (q12_of σ13_ p12_ 4) fun x26_ =>
  if x26_ = 1 then (some true) else (Option.bind (q12_of σ13_ p12_ 0) fun x29_ =>
  if x29_ < 9 then (some true) else (some false))) fun t24_ =>
  if t24_ = true then (rec8_ n11_ (p12_ + 1) σ13_) else
  Option.bind (q12_lays σ13_ p12_ 4 1) fun x33_ =>
  Option.bind (q12_logs x33_ 1 p12_ 0) fun x35_ =>
  rec8_ (n11_ + 1) (p12_ + 1) x35_
  else (some (n11_, p12_, σ13_))) fuelN (0 : Int32) (0 : Int32) z) (fun a y => Wk v n a.2 y.2.2 ∧ Fw v w z a.2 y.2.2 ∧ y.1 = bcount (a.2 v 10) - bcount (w v 10) ∧ ∀ p, p < 6 → q11_isIn (w v 10) (nI p) = true → q11_isIn (a.2 v 10) (nI p) = true) := by
    refine lpR23 n (fun k p s c q u => p = nI k ∧ q = nI k ∧ Wk v n s u ∧ Fw v w z s u ∧ c = bcount (s v 10) - bcount (w v 10) ∧ ∀ p, p < 6 → q11_isIn (w v 10) (nI p) = true → q11_isIn (s v 10) (nI p) = true) ?_ fuelN fuelN 0 _ _ _ _ _ (Nat.zero_le _) (fuel_ok (by omega)) (fuel_ok (by omega)) ⟨rfl, rfl, h, Fw.rfl', by rw [Int32.sub_self], fun _ _ h => h⟩
    rintro F G k p s c q u hk ⟨rfl, rfl, hw, hf, rfl, hm⟩ IH
    refine r2_R ag3 ?_
    have w8 : s v 8 = nI n := hw.1.1.2.1
    rw [w8, hw.1.1.2.2]
    refine r2_ite Iff.rfl (fun hlt => ?_) (fun _ => r2_some ⟨hw, hf, rfl, hm⟩)
    have hkn : k < n := (nI_ltI (by omega) (by omega)).mp hlt
    rw [hw.1.hb hkn, hw.1.h1 hkn, of4 (by omega), of0 (by omega), nI_1]
    simp only [Option.bind_some]
    rcases wB hw.2 hkn with ⟨b1, b2⟩ | ⟨b1, b2⟩
    · rw [b1, b2, if_neg (show ¬ (0 : Int32) = 1 by decide)]
      simp only [Bool.false_eq_true, if_false]
      obtain ⟨a, ha, ea⟩ := (hw.2.1 k hkn).1
      rw [ea]
      have e9 : nI a = 9 ↔ a = 9 := nI_eq (b := 9) (by omega) (by decide)
      have e9' : nI a < 9 ↔ a < 9 := nI_ltI (b := 9) (by omega) (by decide)
      by_cases h9 : a = 9
      · rw [if_pos (e9.mpr h9), if_neg (fun q => by have := e9'.mp q; omega)]
        simp only [Option.bind_some, Bool.false_eq_true, if_false, if_true]
        have s10 : s v 10 = nI (bs (fB (u 1)) n) := hw.1.2.2.1.2
        have hbb : (bs (fB (u 1)) n).testBit k = false := by rw [bs_bit _ _ _ hkn]; exact b2
        have p1 := Wk.put0 (k := 10) (l := 14 + 7 * k + 4) (x := s v 10 ||| shl 1 (nI k)) (y := 1) (n := n) hf hv (by omega) (by omega) (by omega) (by rw [s10]; exact hw.1.uB1 hkn) (hw.2.uB hn hkn (inR_nI (a := 1) (by omega)))
        have l4 := laysk (z := u) (p := k) (k := 4) (x := 1) (by omega) (by omega)
        rw [show (4 : Int32) = nI 4 from rfl, l4]
        simp only [Option.bind_some]
        obtain ⟨s', u', e1, e2, q1, q2, q3⟩ := Wk.log hv p1.1 p1.2 1 (nI k) 0
        rw [e1, e2]
        simp only [Option.bind_some]
        refine IH _ _ _ _ _ hkn ⟨rfl, rfl, q1, q2, ?_, fun p hp hi => by rw [q3, up_at, isIn_or _ _ hp, hm p hp hi]; rfl⟩
        rw [q3, up_at, s10, bc_or _ (bs_le hn _) k (by omega) hbb, sub_up]
      · rw [if_neg (fun q => h9 (e9.mp q)), if_pos (e9'.mpr (by omega))]
        simp only [Option.bind_some, Bool.false_eq_true, if_false, if_true]
        exact IH _ _ _ _ _ hkn ⟨rfl, rfl, hw, hf, rfl, hm⟩
    · rw [b1, b2, if_pos rfl, if_pos rfl]
      simp only [Option.bind_some, Bool.false_eq_true, if_false, if_true]
      exact IH _ _ _ _ _ hkn ⟨rfl, rfl, hw, hf, rfl, hm⟩
  obtain ⟨a, y, e1, e2, q⟩ := key
  refine ⟨a.2, y, ?_, e2, q⟩
  rw [e1]
  rfl
/-! the speech -/
theorem cn_find {P : Nat → Bool} {r : Nat} : ∀ n, r < cn P n → ∃ p, p < n ∧ P p = true ∧ cn P p = r
  | 0, h => absurd h (Nat.not_lt_zero _)
  | n + 1, h => by
    rw [cn_s] at h
    by_cases h1 : r < cn P n
    · obtain ⟨p, p1, p2, p3⟩ := cn_find n h1
      exact ⟨p, by omega, p2, p3⟩
    · by_cases hP : P n = true
      · rw [if_pos hP] at h
        exact ⟨n, by omega, hP, by omega⟩
      · rw [if_neg hP] at h
        omega
theorem cn_uni {P : Nat → Bool} {p q : Nat} (hp : P p = true) (hq : P q = true) (h : cn P p = cn P q) : p = q := by
  have key : ∀ a b, P a = true → a < b → cn P a < cn P b := fun a b ha hab => by
    have := cn_mono (P := P) (show a + 1 ≤ b by omega)
    have := cn_s (P := P) (r := a)
    rw [if_pos ha] at this
    omega
  rcases Nat.lt_trichotomy p q with h1 | h1 | h1
  · have := key p q hp h1; omega
  · exact h1
  · have := key q p hq h1; omega
theorem low_bits : ∀ a, a < 64 → ∀ p, p < 6 → nI a &&& (shl 1 (nI p) - 1) = nI (a % 2 ^ p) := by decide +kernel
theorem bs_mod {f : Nat → Bool} {n p : Nat} (h : p ≤ n) : bs f n % 2 ^ p = bs f p := by
  apply Nat.eq_of_testBit_eq
  intro i
  rw [Nat.testBit_mod_two_pow]
  by_cases hi : i < p
  · rw [bs_bit f p i hi, bs_bit f n i (by omega), decide_eq_true hi, Bool.true_and]
  · rw [bs_bit_ge (n := p) f (by omega), decide_eq_false hi, Bool.false_and]
theorem and15 (x : Int32) : inR (x &&& 32767) 32767 := by
  have hm : (32767 : Int32).toBitVec = BitVec.ofNat 32 32767 := rfl
  refine ⟨(x &&& 32767).toBitVec.toNat, ?_, ?_⟩
  · rw [Int32.toBitVec_and, BitVec.toNat_and]
    exact Nat.le_trans Nat.and_le_right (by rw [hm]; decide)
  · apply Int32.toBitVec_inj.mp
    show _ = (Int32.ofNat _).toBitVec
    rw [Int32.toBitVec_ofNat', BitVec.ofNat_toNat, BitVec.setWidth_eq]
theorem warm_ok {v n i : Nat} {σ μ w z : St} (hv : v = 44 ∨ v = 54) (h : Wk v n w z) (f : Fw v σ μ w z) (hi : i < n) : R2 (q0_warmAll w v (nI i)) (Option.bind (loop2 (fun rec55_ (p58_ : Int32) (σ59_ : St) =>
  Option.bind (ag σ59_ 1 752 3) fun x64_ =>
  if p58_ < x64_ then
  Option.bind (if ¬ p58_ = nI i then (Option.bind (ag σ59_ 1 752 ((63 + (7 * p58_)) + nI i)) fun x75_ =>
  Option.bind (sa σ59_ 1 752 ((63 + (7 * p58_)) + nI i) (q12_lesser 9 (x75_ + 1))) fun σ77_ =>
  some (σ77_)) else (some (σ59_))) fun y68_ =>
  rec55_ (p58_ + 1) y68_
  else (some (p58_, σ59_))) fuelN (0 : Int32) z) fun y52_ => some y52_.2) (fun a b => Wk v n a b ∧ Fw v σ μ a b ∧ a v 10 = w v 10) := by
  have hn := h.1.1.1
  unfold q0_warmAll q10_warm
  dsimp only [lt]
  refine r2_bind ?_
  refine lpR22 n (fun k p s q u => p = nI k ∧ q = nI k ∧ Wk v n s u ∧ Fw v σ μ s u ∧ s v 10 = w v 10) ?_ fuelN fuelN 0 _ _ _ _ (Nat.zero_le _) (fuel_ok (by omega)) (fuel_ok (by omega)) ⟨rfl, rfl, h, f, rfl⟩
  rintro F G k p s q u hk ⟨rfl, rfl, hw, hf, h10⟩ IH
  refine r2_R ag3 ?_
  have w8 : s v 8 = nI n := hw.1.1.2.1
  rw [w8, hw.1.1.2.2]
  refine r2_ite Iff.rfl (fun hlt => ?_) (fun _ => r2_some (r2_some ⟨hw, hf, h10⟩))
  have hkn : k < n := (nI_ltI (by omega) (by omega)).mp hlt
  rw [nI_1]
  by_cases hki : k = i
  · subst hki
    rw [if_neg (not_not_intro rfl), if_neg (not_not_intro rfl)]
    simp only [Option.bind_some]
    exact IH _ _ _ _ hkn ⟨rfl, rfl, hw, hf, h10⟩
  · have ix : (63 + 7 * nI k) + nI i = nI (63 + 7 * k + i) := by
      rw [show (7 : Int32) = nI 7 from rfl, show (63 : Int32) = nI 63 from rfl, pk_mul, nI_add, nI_add]
    have ek : s (v + 6) (k * 6 + i) = u 1 (63 + 7 * k + i) := hw.1.2.2.2.1 k i hkn hi hki
    rw [if_pos (nIe (by omega) (by omega) hki), if_pos (nIe (by omega) (by omega) hki), ag_nI (ix_6 k i) (by omega) (by decide), ag_m (μ := u) (k := 63 + 7 * k + i) ix (by omega), ek]
    simp only [Option.bind_some]
    rw [sa_nI (ix_6 k i) (by omega) (by decide), sa_nI (k := 63 + 7 * k + i) ix (by omega) (by decide), ← imin_le]
    simp only [Option.bind_some]
    have p1 := Wk.put (j := 6) (k := k * 6 + i) (l := 63 + 7 * k + i) (x := imin 9 (u 1 (63 + 7 * k + i) + 1)) (y := imin 9 (u 1 (63 + 7 * k + i) + 1)) (n := n) hf hv (by omega) (by omega) (by omega) (by omega) (hw.1.uK hkn hi hki) (hw.2.uK hn hkn hi hki (more_in (hw.2.2.1 k i hkn hi hki)))
    exact IH _ _ _ _ hkn ⟨rfl, rfl, p1.1, p1.2, by rw [up_pl (by omega)]; exact h10⟩
def nx (x : Int32) : Int32 := 1103515245 * x + 12345
theorem draw11 {w : St} {v : Nat} : q10_draw w v = some ((ushr (nx (w v 15)) 16) &&& 32767, up w v 15 (nx (w v 15))) := by
  unfold q10_draw nx
  dsimp only [lt]
  rw [up_at]
theorem draw12 {z : St} {y : Int32} : q12_draw z y = Option.bind (rmd ((ushr (nx (z 1 9)) 16) &&& 32767) y) (fun r => some (r, up z 1 9 (nx (z 1 9)))) := by
  unfold q12_draw nx
  rw [ag_m (μ := z) (j := 9) (k := 9) rfl (by decide)]
  simp only [Option.bind_some]
  rw [sa_nI (j := 9) (k := 9) rfl (by decide) (by decide)]
  simp only [Option.bind_some]
  rw [ag_m (j := 9) (k := 9) rfl (by decide), up_at]
  rfl
theorem who_ok {R : Nat → Bool} {n i r : Nat} (hn : n ≤ 6) (hi : i < n) (hRi : R i = true) (hcr : cn R i = r) (hrr : r < 100) : Wo (loop2 (fun rec27_ (who30_ : Int32) (p31_ : Int32) =>
  if 0 ≤ p31_ then
  Option.bind (Option.bind (if q12_isOf (nI (bs (R) n)) p31_ = true then (Option.bind (q12_bits (nI (bs (R) n) &&& ((shl 1 p31_) - 1))) fun x46_ =>
  if x46_ = nI r then (some true) else (some false)) else (some false)) fun t43_ =>
  if t43_ = true then (some (p31_)) else (some (who30_))) fun y38_ =>
  rec27_ y38_ (p31_ + (-1))
  else (some (who30_, p31_))) fuelN (-1 : Int32) (nI n - 1)) (fun y => y.1 = nI i) := by
      have hbl := bs_le hn R
      have hic := cn_top (P := R) i
      refine lpW2 n (fun t x q => q = nI (n - t) - 1 ∧ x = if n - t ≤ i then nI i else -1) ?_ fuelN 0 _ _ (Nat.zero_le _) (fuel_ok (by omega)) ⟨rfl, by rw [if_neg (by omega)]⟩
      rintro rec t x q ht ⟨rfl, rfl⟩ IH
      by_cases htn : t < n
      · have e1 : nI (n - t) - 1 = nI (n - (t + 1)) := by
          have := nI_pred (n - (t + 1))
          rw [show n - (t + 1) + 1 = n - t from by omega] at this
          exact this
        rw [e1, if_pos (show (0 : Int32) ≤ nI (n - (t + 1)) from Int32.not_lt.mp (nI_pos (by omega))), isOf_isIn, isIn_bs hn (by omega), low_bits _ hbl _ (by omega), bs_mod (by omega), bits_ok (bs_le (by omega) _), bcount_bs (by omega)]
        simp only [Option.bind_some]
        have hct2 := cn_top (P := R) (n - (t + 1))
        have e2 : nI (cn (R) (n - (t + 1))) = nI r ↔ cn (R) (n - (t + 1)) = r := nI_eq (by omega) (by omega)
        have e3 : nI (n - (t + 1)) + -1 = nI (n - (t + 1)) - 1 := (Int32.sub_eq_add_neg _ _).symm
        rw [e3]
        by_cases hit : n - (t + 1) = i
        · rw [hit, if_pos hRi, if_pos (by rw [hcr])]
          simp only [Option.bind_some, if_true]
          exact IH _ _ htn ⟨by rw [hit], by rw [if_pos (by omega)]⟩
        · have hf : (if R (n - (t + 1)) = true then (if nI (cn (R) (n - (t + 1))) = nI r then some true else some false) else some false) = some false := by
            by_cases hR : R (n - (t + 1)) = true
            · rw [if_pos hR, if_neg (fun q => hit (cn_uni hR hRi ((e2.mp q).trans hcr.symm)))]
            · rw [if_neg hR]
          rw [hf]
          simp only [Option.bind_some, Bool.false_eq_true, if_false]
          refine IH _ _ htn ⟨rfl, ?_⟩
          by_cases hc : n - t ≤ i
          · rw [if_pos hc, if_pos (by omega)]
          · rw [if_neg hc, if_neg (by omega)]
      · have htn : t = n := by omega
        subst htn
        rw [if_neg (show ¬ (0 : Int32) ≤ nI (t - t) - 1 by rw [Nat.sub_self]; decide)]
        refine wo_some ?_
        dsimp only
        rw [if_pos (by omega)]
theorem spk_ok {R : Nat → Bool} {v n i r : Nat} {w2 a : St} (hn : n ≤ 6) (hi : i < n) (hRi : R i = true) (hcr : cn R i = r) (hrr : r < 100) (e8 : w2 v 8 = nI n) (e8' : a v 8 = nI n) (ea : q0_warmAll w2 v (nI i) = some a) : Wo (loop3 (fun rec19_ (place22_ : Int32) (r23_ : Int32) (σ24_ : St) =>
  if r23_ < (σ24_ v 8) then
  Option.bind (if q11_isIn (nI (bs (R) n)) r23_ = true then (Option.bind (if place22_ = 0 then (Option.bind (q0_warmAll σ24_ v r23_) fun x45_ =>
  some (x45_)) else (some (σ24_))) fun y38_ =>
  some (place22_ + (-1), y38_)) else (some (place22_, σ24_))) fun y31_ =>
  rec19_ y31_.1 (r23_ + 1) y31_.2
  else (some (place22_, r23_, σ24_))) fuelN (nI r) (0 : Int32) w2) (fun y => y.2.2 = a) := by
      refine lpW3 n (fun k x q s => q = nI k ∧ x = nI r - nI (cn (R) k) ∧ s = if k ≤ i then w2 else a) ?_ fuelN 0 _ _ _ (Nat.zero_le _) (fuel_ok (by omega)) ⟨rfl, by show nI r = nI r - nI 0; rw [show nI 0 = (0 : Int32) from rfl, Int32.sub_zero], by rw [if_pos (by omega)]⟩
      rintro rec k x q s hk ⟨rfl, rfl, rfl⟩ IH
      have s8 : (if k ≤ i then w2 else a) v 8 = nI n := by
        split
        · exact e8
        · exact e8'
      rw [s8]
      refine wo_ite (fun hlt => ?_) (fun hge => ?_)
      · have hkn : k < n := (nI_ltI (by omega) (by omega)).mp hlt
        rw [isIn_bs hn hkn, nI_1]
        have c1 := cn_s (P := R) (r := k)
        have hck := cn_top (P := R) k
        by_cases hR : R k = true
        · rw [if_pos hR] at c1
          rw [if_pos hR, lead_dn, ← c1]
          have e4 : nI r - nI (cn (R) k) = 0 ↔ k = i := by
            constructor
            · intro q
              have q2 : nI r = nI (cn (R) k) := by
                have := Int32.sub_add_cancel (nI r) (nI (cn (R) k))
                rw [q, Int32.zero_add] at this
                exact this.symm
              have : r = cn (R) k := (nI_eq (by omega) (by omega)).mp q2
              exact cn_uni hR hRi (this.symm.trans hcr.symm)
            · intro q
              rw [q, hcr, Int32.sub_self]
          by_cases hki : k = i
          · rw [if_pos (e4.mpr hki), if_pos (show k ≤ i by omega), hki, ea]
            simp only [Option.bind_some]
            refine IH _ _ _ hkn ⟨by rw [hki], by rw [hki], by rw [if_neg (by omega)]⟩
          · rw [if_neg (fun q => hki (e4.mp q))]
            simp only [Option.bind_some]
            refine IH _ _ _ hkn ⟨rfl, rfl, ?_⟩
            by_cases hc : k ≤ i
            · rw [if_pos hc, if_pos (by omega)]
            · rw [if_neg hc, if_neg (by omega)]
        · rw [if_neg hR] at c1
          rw [if_neg hR]
          simp only [Option.bind_some]
          refine IH _ _ _ hkn ⟨rfl, by rw [c1]; rfl, ?_⟩
          have hki : k ≠ i := fun q => by rw [q] at hR; exact hR hRi
          by_cases hc : k ≤ i
          · rw [if_pos hc, if_pos (by omega)]
          · rw [if_neg hc, if_neg (by omega)]
      · have : k = n := by
          have : ¬ k < n := fun q => hge (nI_lt q (by omega))
          omega
        subst this
        refine wo_some ?_
        dsimp only
        rw [if_neg (by omega)]
theorem draw100 {z : St} : q12_draw z 100 = some (irm ((ushr (nx (z 1 9)) 16) &&& 32767) 100, up z 1 9 (nx (z 1 9))) := by
  rw [draw12]
  unfold rmd
  rw [if_neg (show ¬ (100 : Int32) = 0 by decide)]
  rfl
theorem speech_ok {v n : Nat} {w z : St} (hv : v = 44 ∨ v = 54) (h : Wk v n w z) : R2 (q0_holdSpeech w v) (q12_speaks z) (fun a b => Wk v n a b ∧ Fw v w z a b ∧ a v 10 = w v 10) := by
  have hn := h.1.1.1
  have h3 : z 1 3 = nI n := h.1.1.2.2
  have e15 : w v 15 = z 1 9 := h.1.2.2.2.2.2.1.2.2.2.2.1
  unfold q0_holdSpeech q12_speaks
  dsimp only [lt]
  have er : q10_runners w v = nI (bs (fRn (z 1)) n) := by
    unfold q10_runners
    rw [show w v 9 = nI (bs (fS (z 1)) n) from h.1.2.2.1.1, show w v 10 = nI (bs (fB (z 1)) n) from h.1.2.2.1.2, run_bs hn]
    rfl
  refine r2_L draw11 ?_
  refine r2_R (those3 h3 hn h.2) ?_
  refine r2_R (those4 h3 hn h.2) ?_
  refine r2_R draw100 ?_
  refine r2_R (ag_m (j := 7) (k := 7) rfl (by decide)) ?_
  have hrn : nI (bs (fS (z 1)) n) &&& (nI (bs (fB (z 1)) n) ^^^ -1) = nI (bs (fRn (z 1)) n) := run_bs hn
  rw [er, hrn, bcount_bs hn, e15]
  dsimp only
  have p1 := Wk.put0 (k := 15) (l := 9) (x := nx (z 1 9)) (y := nx (z 1 9)) (n := n) (Fw.rfl' (v := v) (σ := w) (μ := z)) hv (by omega) (by omega) (by omega) h.1.uSd (h.2.uSd hn)
  have e10 : up w v 15 (nx (z 1 9)) v 10 = w v 10 := up_off (by decide)
  generalize ew : up w v 15 (nx (z 1 9)) = w1 at p1 e10 ⊢
  generalize ez : up z 1 9 (nx (z 1 9)) = z1 at p1 ⊢
  have efR : ∀ q, q < n → fRn (z1 1) q = fRn (z 1) q := fun q hq => by
    unfold fRn fS fB
    rw [← ez, up_off (by omega), up_off (by omega)]
  have e14 : w1 v 14 = z1 1 7 := p1.1.1.2.2.2.2.2.1.2.2.2.1
  have hct := cn_top (P := fRn (z 1)) n
  have hbl := bs_le hn (fRn (z 1))
  have e0 : nI (cn (fRn (z 1)) n) = 0 ↔ nI (bs (fRn (z 1)) n) = 0 := by
    rw [nI_0i (by omega), nI_0i (by omega)]
    constructor
    · intro hc
      rcases Nat.eq_zero_or_pos (bs (fRn (z 1)) n) with hb | hb
      · exact hb
      · obtain ⟨q1, q2⟩ := lw_bs hn hb
        rw [ps0_no hc q1] at q2
        cases q2
    · intro hb
      refine cn_0.mpr (fun x hx => ?_)
      cases hs : fRn (z 1) x with
      | false => rfl
      | true =>
        have := bs_pos hx hs
        omega
  by_cases hq : z1 1 7 ≤ irm (ushr (nx (z 1 9)) 16 &&& 32767) 100 ∨ nI (bs (fRn (z 1)) n) = 0
  · have hq' : w1 v 14 ≤ irm (ushr (nx (z 1 9)) 16 &&& 32767) 100 ∨ nI (cn (fRn (z 1)) n) = 0 := by
      rw [e14]
      exact hq.imp id e0.mpr
    rw [if_pos hq', if_pos hq]
    exact r2_some ⟨p1.1, p1.2, e10⟩
  · have hq' : ¬ (w1 v 14 ≤ irm (ushr (nx (z 1 9)) 16 &&& 32767) 100 ∨ nI (cn (fRn (z 1)) n) = 0) := fun q => by
      rw [e14] at q
      exact hq (q.imp id e0.mp)
    rw [if_neg hq', if_neg hq]
    have hc0 : ¬ nI (cn (fRn (z 1)) n) = 0 := fun q => hq (Or.inr (e0.mp q))
    have hcp : 0 < cn (fRn (z 1)) n := Nat.pos_of_ne_zero (fun q => hc0 (by rw [q]; rfl))
    have e15' : w1 v 15 = z1 1 9 := p1.1.1.2.2.2.2.2.1.2.2.2.2.1
    rw [draw11, bits_ok hbl, bcount_bs hn]
    simp only [Option.bind_some]
    rw [draw12, e15']
    unfold rmd
    rw [if_neg hc0]
    simp only [Option.bind_some]
    obtain ⟨D, hD, eD⟩ := and15 (ushr (nx (z1 1 9)) 16)
    rw [eD, irm_nI (by omega) hcp (by omega)]
    have hr : D % cn (fRn (z 1)) n < cn (fRn (z 1)) n := Nat.mod_lt _ hcp
    generalize D % cn (fRn (z 1)) n = r at hr ⊢
    have p2 := Wk.put0 (k := 15) (l := 9) (x := nx (z1 1 9)) (y := nx (z1 1 9)) (n := n) p1.2 hv (by omega) (by omega) (by omega) p1.1.1.uSd (p1.1.2.uSd hn)
    have e10' : up w1 v 15 (nx (z1 1 9)) v 10 = w v 10 := by rw [up_off (by decide)]; exact e10
    generalize up w1 v 15 (nx (z1 1 9)) = w2 at p2 e10' ⊢
    generalize up z1 1 9 (nx (z1 1 9)) = z2 at p2 ⊢
    obtain ⟨i, hi, hRi, hcr⟩ := cn_find n hr
    have hic := cn_top (P := fRn (z 1)) i
    rw [ag3, p2.1.1.1.2.2]
    simp only [Option.bind_some]
    obtain ⟨a, b, ea, eb, q1, q2, q3⟩ := warm_ok hv p2.1 p2.2 hi
    obtain ⟨⟨x, y⟩, ey, hy⟩ := who_ok hn hi hRi hcr (by omega)
    dsimp only at hy
    subst hy
    rw [ey]
    simp only [Option.bind_some]
    rw [eb]
    obtain ⟨y', ey', hy'⟩ := spk_ok (v := v) (w2 := w2) (a := a) hn hi hRi hcr (by omega) p2.1.1.1.2.1 q1.1.1.2.1 ea
    rw [ey']
    simp only [Option.bind_some]
    rw [hy']
    exact r2_some ⟨q1, q2, q3.trans e10'⟩

/-! LAYER 2: ODDS -/
def chN (n j : Nat) : Nat := sm (fun x => if pcn x 31 = j then 1 else 0) (2 ^ n)
theorem choose_ok : ∀ n, n < 7 → ∀ j, j < 7 → j ≤ n → q11_choose (nI n) (nI j) = some (lN (chN n j)) := by decide +kernel
theorem power_ok (b e : Nat) (he : e ≤ 100) : q11_power (lN b) (nI e) = some (lN (b ^ e)) := by
  have h : Wo (q11_power (lN b) (nI e)) (fun r => r = lN (b ^ e)) := by
    unfold q11_power
    dsimp only [lt]
    refine wo_bind ?_
    refine lpW2 e (fun k a p => p = nI k ∧ a = lN (b ^ k)) ?_ fuelN 0 1 0 (Nat.zero_le _) (fuel_ok (by omega)) ⟨rfl, rfl⟩
    rintro rec k a p hk ⟨rfl, rfl⟩ IH
    refine wo_ite (fun hlt => ?_) (fun hge => ?_)
    · have hkn : k < e := (nI_ltI (by omega) (by omega)).mp hlt
      rw [lN_mul, nI_1]
      exact IH _ _ hkn ⟨rfl, by rw [Nat.pow_succ]⟩
    · have : k = e := by
        have : ¬ k < e := fun q => hge (nI_lt q (by omega))
        omega
      subst this
      exact wo_some (wo_some rfl)
  obtain ⟨r, e, rfl⟩ := h
  exact e
theorem pcn_le7 : ∀ x, x < 64 → pcn x 31 < 7 := by decide +kernel
theorem pcn_n : ∀ n, n < 7 → ∀ x, x < 2 ^ n → pcn x n = pcn x 31 := by decide +kernel
theorem chN0 : ∀ n, n < 7 → ∀ j, j < 7 → n < j → chN n j = 0 := by decide +kernel
/-- a sum by its classes -/
theorem sm_cls (g : Nat → Nat) (c : Nat → Nat) : ∀ N, (∀ x, x < N → c x < 7) → sm (fun x => g (c x)) N = sm (fun j => sm (fun x => if c x = j then 1 else 0) N * g j) 7
  | 0, _ => by
    show 0 = 0 + 0 * g 0 + 0 * g 1 + 0 * g 2 + 0 * g 3 + 0 * g 4 + 0 * g 5 + 0 * g 6
    omega
  | N + 1, h => by
    have ih := sm_cls g c N (fun x hx => h x (by omega))
    have hc := h N (by omega)
    rw [sm_s, ih]
    have e : ∀ j, sm (fun x => if c x = j then 1 else 0) (N + 1) * g j = sm (fun x => if c x = j then 1 else 0) N * g j + (if c N = j then g j else 0) := fun j => by
      rw [sm_s, Nat.add_mul]
      split
      · rw [Nat.one_mul]
      · rw [Nat.zero_mul]
    rw [sm_congr (fun j _ => e j)]
    have e2 : ∀ (u v : Nat → Nat), ∀ M, sm (fun j => u j + v j) M = sm u M + sm v M := fun u v M => by
      induction M with
      | zero => rfl
      | succ M ih => rw [sm_s, sm_s, sm_s, ih]; omega
    have e3 : sm (fun j => if c N = j then g j else 0) 7 = g (c N) := by
      generalize c N = k at hc
      rcases (show k = 0 ∨ k = 1 ∨ k = 2 ∨ k = 3 ∨ k = 4 ∨ k = 5 ∨ k = 6 by omega) with rfl | rfl | rfl | rfl | rfl | rfl | rfl <;> simp [sm]
    have e4 := e2 (fun j => sm (fun x => if c x = j then 1 else 0) N * g j) (fun j => if c N = j then g j else 0) 7
    rw [e3] at e4
    exact e4.symm
def tmN (n k s t j : Nat) : Nat := (if j < k then 0 else 1) * (s ^ j * t ^ (n - j))
def hit (n k s t : Nat) : Nat := sm (fun j => if j < k ∨ n < j then 0 else chN n j * s ^ j * t ^ (n - j)) 7
theorem hit_eq {n k s t : Nat} (hn : n ≤ 6) : sm (fun x => tmN n k s t (pcn x 31)) (2 ^ n) = hit n k s t := by
  rw [sm_cls (tmN n k s t) (fun x => pcn x 31) (2 ^ n) (fun x hx => pcn_le7 x (Nat.lt_of_lt_of_le hx (pow_le6 hn)))]
  unfold hit
  refine sm_congr (fun j hj => ?_)
  show chN n j * tmN n k s t j = _
  unfold tmN
  by_cases h1 : j < k
  · rw [if_pos h1, if_pos (Or.inl h1), Nat.zero_mul, Nat.mul_zero]
  · rw [if_neg h1, Nat.one_mul]
    by_cases h2 : n < j
    · rw [if_pos (Or.inr h2), chN0 n (by omega) j hj h2, Nat.zero_mul]
    · rw [if_neg (by omega), Nat.mul_assoc]
theorem sm_stop {f : Nat → Nat} : ∀ {a b : Nat}, (∀ j, a ≤ j → j < a + b → f j = 0) → sm f (a + b) = sm f a
  | a, 0, _ => rfl
  | a, b + 1, h => by
    rw [← Nat.add_assoc, sm_s, h (a + b) (by omega) (by omega), Nat.add_zero]
    exact sm_stop (fun j h1 h2 => h j h1 (by omega))
theorem op_odds {LR : LRT} : Op_odds (RR LR) := by
  intro σ μ hR x y
  obtain ⟨n0, ⟨hn0, h8, h3⟩, hV, hW⟩ := hR.nn
  obtain ⟨s, hs, es⟩ := hW.2.2.2.2.2.2.1
  have es' : σ 44 14 = nI s := hV.2.2.2.2.2.1.2.2.2.1.trans es
  unfold q11_odds q12_odds
  dsimp only [lt]
  rcases num_cases x 0 6 with ⟨a1, a2⟩ | ⟨a1, a2, a3, a4⟩
  · rw [a1, a2]
    exact ⟨(.inl 0, σ), (0, up μ 0 0 1), rfl, by simp only [Bool.false_eq_true, not_false_eq_true, true_or, if_true, up_at, if_pos lt01], sx_thr (i := 0) (by decide) (by decide) rfl, hR.t0⟩
  · rcases num_cases y 0 6 with ⟨b1, b2⟩ | ⟨b1, b2, b3, b4⟩
    · rw [a1, a2, b1, b2]
      exact ⟨(.inl 0, σ), (0, up μ 0 0 1), rfl, by simp only [Bool.false_eq_true, not_false_eq_true, or_true, if_true, up_at, if_pos lt01], sx_thr (i := 0) (by decide) (by decide) rfl, hR.t0⟩
    · rw [a1, a2, b1, b2]
      obtain ⟨n, hn, rfl⟩ := nI_of2 (x := x) (M := 6) (n := 6) (by decide) (Int32.not_lt.mpr a3) a4
      obtain ⟨k, hk, rfl⟩ := nI_of2 (x := y) (M := 6) (n := 6) (by decide) (Int32.not_lt.mpr b3) b4
      simp only [not_true_eq_false, or_self, if_false, up_at, if_neg lt0]
      have hp := pow_le6 hn
      have e100 : (100 : Int32) - nI s = nI (100 - s) := by
        have : (100 : Int32) = nI (100 - s) + nI s := by
          rw [nI_add, show 100 - s + s = 100 from by omega]
          rfl
        rw [this, Int32.add_sub_cancel]
      have t1 : (nI s).toInt64 = lN s := nI_l (by omega)
      have t2 : (nI (100 - s)).toInt64 = lN (100 - s) := nI_l (by omega)
      have hC : Wo (loop2 (fun (rec8_ : Int64 → Int32 → Option (Int64 × Int32)) (hits11_ : Int64) (j12_ : Int32) =>
          if j12_ ≤ nI n then
          Option.bind (q11_choose (nI n) j12_) fun x19_ =>
          Option.bind (q11_power ((σ 44 14).toInt64) j12_) fun x21_ =>
          Option.bind (q11_power ((100 - (σ 44 14)).toInt64) (nI n - j12_)) fun x23_ =>
          rec8_ (hits11_ + ((x19_ * x21_) * x23_)) (j12_ + 1)
          else (some (hits11_, j12_))) fuelN (0 : Int64) (nI k)) (fun r => r.1 = lN (hit n k s (100 - s))) := by
        rw [es', e100, t1, t2]
        have hz : sm (fun j => if j < k ∨ n < j then 0 else chN n j * s ^ j * (100 - s) ^ (n - j)) k = 0 := by
          have := sm_stop (f := fun j => if j < k ∨ n < j then 0 else chN n j * s ^ j * (100 - s) ^ (n - j)) (a := 0) (b := k) (fun j _ hj => by
            show (if j < k ∨ n < j then 0 else _) = 0
            rw [if_pos (Or.inl (by omega))])
          rw [Nat.zero_add] at this
          exact this
        refine lpW2 7 (fun j a p => k ≤ j ∧ p = nI j ∧ a = lN (sm (fun j => if j < k ∨ n < j then 0 else chN n j * s ^ j * (100 - s) ^ (n - j)) j)) ?_ fuelN k 0 (nI k) (by omega) (fuel_ok (by omega)) ⟨Nat.le_refl _, rfl, by rw [hz]; rfl⟩
        rintro rec j a p hj ⟨hkj, rfl, rfl⟩ IH
        by_cases hjn : j ≤ n
        · have esub : nI n - nI j = nI (n - j) := by
            have : nI n = nI (n - j) + nI j := by rw [nI_add, show n - j + j = n from by omega]
            rw [this, Int32.add_sub_cancel]
          rw [if_pos (nI_le hjn (by omega)), choose_ok n (by omega) j (by omega) hjn, power_ok _ _ (by omega), esub, power_ok _ _ (by omega)]
          simp only [Option.bind_some]
          rw [lN_mul, lN_mul, lN_add, nI_1]
          refine IH _ _ (by omega) ⟨by omega, rfl, ?_⟩
          rw [sm_s, if_neg (by omega)]
        · rw [if_neg (fun q => hjn ((nI_leI (by omega) (by omega)).mp q))]
          refine wo_some ?_
          show lN _ = lN _
          unfold hit
          rw [← sm_stop (a := j) (b := 7 - j) (fun i h1 h2 => by
            show (if i < k ∨ n < i then 0 else _) = 0
            rw [if_pos (Or.inr (by omega))]), show j + (7 - j) = 7 from by omega]
      have hM1 : Wo (loop2 (fun (rec16_ : Int64 → Int32 → Option (Int64 × Int32)) (whole19_ : Int64) (i20_ : Int32) =>
          if i20_ < nI n then
          rec16_ (whole19_ * 100) (i20_ + 1)
          else (some (whole19_, i20_))) fuelN (1 : Int64) (0 : Int32)) (fun r => r.1 = lN (100 ^ n)) := by
        refine lpW2 n (fun k a p => p = nI k ∧ a = lN (100 ^ k)) ?_ fuelN 0 1 0 (Nat.zero_le _) (fuel_ok (by omega)) ⟨rfl, rfl⟩
        rintro rec k a p hk ⟨rfl, rfl⟩ IH
        refine wo_ite (fun hlt => ?_) (fun hge => ?_)
        · have hkn : k < n := (nI_ltI (by omega) (by omega)).mp hlt
          rw [show (100 : Int64) = lN 100 from rfl, lN_mul, nI_1]
          exact IH _ _ hkn ⟨rfl, by rw [Nat.pow_succ]⟩
        · have : k = n := by
            have : ¬ k < n := fun q => hge (nI_lt q (by omega))
            omega
          subst this
          exact wo_some rfl
      have hM2 : Wo (loop2 (fun (rec34_ : Int64 → Int32 → Option (Int64 × Int32)) (some37_ : Int64) (set38_ : Int32) =>
          if set38_ < (shl 1 (nI n)) then
          Option.bind (Option.bind (q12_bits set38_) fun x50_ =>
          if x50_ < nI k then (some (0 : Int64)) else (some (1 : Int64))) fun x45_ =>
          Option.bind (loop2 (fun (rec57_ : Int64 → Int32 → Option (Int64 × Int32)) (odds60_ : Int64) (i61_ : Int32) =>
          if i61_ < nI n then
          Option.bind (if q12_isOf set38_ i61_ = true then (Option.bind (ag (up μ 0 0 0) 1 752 7) fun x74_ =>
          some x74_.toInt64) else (Option.bind (ag (up μ 0 0 0) 1 752 7) fun x76_ =>
          some ((100 - x76_).toInt64))) fun x68_ =>
          rec57_ (odds60_ * x68_) (i61_ + 1)
          else (some (odds60_, i61_))) fuelN x45_ (0 : Int32)) fun y54_ =>
          rec34_ (some37_ + y54_.1) (set38_ + 1)
          else (some (some37_, set38_))) fuelN (0 : Int64) (0 : Int32)) (fun r => r.1 = lN (hit n k s (100 - s))) := by
        have esh : shl 1 (nI n) = nI (2 ^ n) := (by decide +kernel : ∀ n, n < 7 → shl 1 (nI n) = nI (2 ^ n)) n (by omega)
        rw [esh]
        refine lpW2 (2 ^ n) (fun x a p => p = nI x ∧ a = lN (sm (fun x => tmN n k s (100 - s) (pcn x 31)) x)) ?_ fuelN 0 0 0 (Nat.zero_le _) (fuel_ok (by omega)) ⟨rfl, rfl⟩
        rintro rec x a p hx ⟨rfl, rfl⟩ IH
        refine wo_ite (fun hlt => ?_) (fun hge => ?_)
        · have hxn : x < 2 ^ n := (nI_ltI (by omega) (by omega)).mp hlt
          rw [bits_ok (by omega), bcount_pcn x (by omega)]
          simp only [Option.bind_some]
          have h31 := pcn_le7 x (by omega)
          have ew : (if nI (pcn x 31) < nI k then some (0 : Int64) else some 1) = some (lN (if pcn x 31 < k then 0 else 1)) := by
            by_cases hc : pcn x 31 < k
            · rw [if_pos (nI_lt hc (by omega)), if_pos hc]; rfl
            · rw [if_neg (fun q => hc ((nI_ltI (by omega) (by omega)).mp q)), if_neg hc]; rfl
          rw [ew]
          simp only [Option.bind_some]
          have hi : Wo (loop2 (fun (rec57_ : Int64 → Int32 → Option (Int64 × Int32)) (odds60_ : Int64) (i61_ : Int32) =>
              if i61_ < nI n then
              Option.bind (if q12_isOf (nI x) i61_ = true then (Option.bind (ag (up μ 0 0 0) 1 752 7) fun x74_ =>
              some x74_.toInt64) else (Option.bind (ag (up μ 0 0 0) 1 752 7) fun x76_ =>
              some ((100 - x76_).toInt64))) fun x68_ =>
              rec57_ (odds60_ * x68_) (i61_ + 1)
              else (some (odds60_, i61_))) fuelN (lN (if pcn x 31 < k then 0 else 1)) (0 : Int32)) (fun r => r.1 = lN (tmN n k s (100 - s) (pcn x 31))) := by
            refine lpW2 n (fun i a p => p = nI i ∧ a = lN ((if pcn x 31 < k then 0 else 1) * (s ^ pcn x i * (100 - s) ^ (i - pcn x i))) ∧ pcn x i ≤ i) ?_ fuelN 0 _ 0 (Nat.zero_le _) (fuel_ok (by omega)) ⟨rfl, ?_, Nat.le_refl _⟩
            · rintro rec i a p hi ⟨rfl, rfl, hle⟩ IH
              refine wo_ite (fun hlt => ?_) (fun hge => ?_)
              · have hin : i < n := (nI_ltI (by omega) (by omega)).mp hlt
                rw [ag_m (j := 7) (k := 7) rfl (by decide), up0_1, es, isOf_isIn, isIn_bit x (by omega) i (by omega)]
                simp only [Option.bind_some]
                rw [e100, t1, t2]
                by_cases hb : x.testBit i = true
                · rw [if_pos hb]
                  simp only [Option.bind_some]
                  rw [lN_mul, nI_1]
                  refine IH _ _ hin ⟨rfl, ?_, ?_⟩
                  · rw [pcn_s (k := i), if_pos hb, show i + 1 - (pcn x i + 1) = i - pcn x i from by omega, Nat.pow_succ]
                    congr 1
                    rw [Nat.mul_assoc, Nat.mul_assoc, Nat.mul_assoc]
                    congr 2
                    rw [Nat.mul_comm]
                  · rw [pcn_s, if_pos hb]; omega
                · rw [if_neg hb]
                  simp only [Option.bind_some]
                  rw [lN_mul, nI_1]
                  refine IH _ _ hin ⟨rfl, ?_, ?_⟩
                  · rw [pcn_s (k := i), if_neg hb, Nat.add_zero, show i + 1 - pcn x i = i - pcn x i + 1 from by omega, Nat.pow_succ]
                    congr 1
                    rw [Nat.mul_assoc, Nat.mul_assoc]
                  · rw [pcn_s, if_neg hb]; omega
              · have : i = n := by
                  have : ¬ i < n := fun q => hge (nI_lt q (by omega))
                  omega
                subst this
                refine wo_some ?_
                show lN _ = lN (tmN _ _ _ _ _)
                unfold tmN
                rw [pcn_n i (by omega) x hxn]
            · show lN (if pcn x 31 < k then 0 else 1) = lN ((if pcn x 31 < k then 0 else 1) * (s ^ 0 * (100 - s) ^ (0 - 0)))
              rw [Nat.sub_zero, Nat.pow_zero, Nat.pow_zero, Nat.mul_one]
          obtain ⟨⟨r, r'⟩, er, hr⟩ := hi
          dsimp only at hr
          subst hr
          refine wo_st er ?_
          show Wo (rec (lN _ + lN _) (nI x + 1)) _
          rw [lN_add, nI_1]
          exact IH _ _ hxn ⟨rfl, by rw [sm_s]⟩
        · have : x = 2 ^ n := by
            have : ¬ x < 2 ^ n := fun q => hge (nI_lt q (by omega))
            omega
          subst this
          refine wo_some ?_
          show lN _ = lN _
          rw [hit_eq hn]
      obtain ⟨⟨c, c'⟩, ec, hc⟩ := hC
      obtain ⟨⟨w, w'⟩, ew, hw⟩ := hM1
      obtain ⟨⟨v, v'⟩, ev, hv⟩ := hM2
      dsimp only at hc hw hv
      subst hc hw hv
      have h100 : lN (100 ^ n) ≠ 0 ∧ 0 < lg_cmp (lN (100 ^ n)) 0 := (by decide +kernel : ∀ n, n < 7 → lN (100 ^ n) ≠ 0 ∧ 0 < lg_cmp (lN (100 ^ n)) 0) n (by omega)
      refine ⟨(.inr ((lN (hit n k s (100 - s)) * 10000 / lN (100 ^ n)).toInt32), σ), ((lN (hit n k s (100 - s)) * 10000 / lN (100 ^ n)).toInt32, up μ 0 0 0), ?_, ?_, sx_ok up_at, hR.t0⟩
      · show Option.bind (loop2 _ _ _ _) _ = _
        have ec' := ec
        rw [ec']
        simp only [Option.bind_some]
        rw [show (100 : Int64) = lN 100 from rfl, power_ok _ _ (by omega)]
        simp only [Option.bind_some]
        rw [if_pos h100.2]
        unfold dvl
        rw [if_neg h100.1]
        rfl
      · have ew' := ew
        have ev' := ev
        rw [ew']
        simp only [Option.bind_some]
        rw [ev']
        simp only [Option.bind_some]
        unfold dvl
        rw [if_neg h100.1, Int64.mul_comm 10000]
        rfl

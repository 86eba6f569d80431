/-! LAYER 2: TABLE -/
theorem or_new : ∀ x, x < 64 → ∀ o, o < 6 → x.testBit o = false → nI x ||| shl 1 (nI o) = nI (x + 2 ^ o) := by decide +kernel
theorem new_lt : ∀ n, n < 7 → ∀ x, x < 2 ^ n → ∀ o, o < n → x.testBit o = false → x + 2 ^ o < 2 ^ n := by decide +kernel
theorem new_pcn : ∀ x, x < 64 → ∀ o, o < 6 → x.testBit o = false → pcn (x + 2 ^ o) 31 = pcn x 31 + 1 := by decide +kernel
theorem new_in (n : Nat) (hn : n < 7) (x : Nat) (hx : x < 2 ^ n) (o : Nat) (ho : o < n) (hb : x.testBit o = false) : x + 2 ^ o < 2 ^ n ∧ x < x + 2 ^ o ∧ pcn (x + 2 ^ o) 31 = pcn x 31 + 1 := by
  have h1 := pow_le6 (n := n) (by omega)
  have h2 : 0 < 2 ^ o := Nat.pow_pos (by omega)
  exact ⟨new_lt n hn x hx o ho hb, by omega, new_pcn x (by omega) o (by omega) hb⟩
theorem all_bit : ∀ n, n < 7 → ∀ o, o < n → (2 ^ n - 1).testBit o = true := by decide +kernel
theorem pcn_all : ∀ n, n < 7 → pcn (2 ^ n - 1) 31 = n := by decide +kernel
theorem gap : ∀ n, n < 7 → ∀ x, x < 2 ^ n → x ≠ 2 ^ n - 1 → ∃ o, o < n ∧ x.testBit o = false := by decide +kernel
theorem loop2_s {A B R : Type} {f : (A → B → Option R) → A → B → Option R} {N : Nat} {a : A} {b : B} : loop2 f (N + 1) a b = f (loop2 f N) a b := rfl
/-- a loop whose other side goes on for a while -/
theorem lpR22t {A1 A2 B1 B2 R S : Type} {f : (A1 → A2 → Option R) → A1 → A2 → Option R} {g : (B1 → B2 → Option S) → B1 → B2 → Option S} {Q : R → S → Prop} (e : Nat) (I : Nat → A1 → A2 → B1 → B2 → Prop) (h : ∀ (u : A1 → A2 → Option R) (v : B1 → B2 → Option S) (n : Nat) (a1 : A1) (a2 : A2) (b1 : B1) (b2 : B2), n < e → I n a1 a2 b1 b2 → (∀ (c1 : A1) (c2 : A2) (d1 : B1) (d2 : B2), I (n + 1) c1 c2 d1 d2 → R2 (u c1 c2) (v d1 d2) Q) → R2 (f u a1 a2) (g v b1 b2) Q) (hend : ∀ (N M : Nat) (a1 : A1) (a2 : A2) (b1 : B1) (b2 : B2), I e a1 a2 b1 b2 → R2 (loop2 f (N + 1) a1 a2) (loop2 g (M + 1 + 1) b1 b2) Q) : ∀ (N M n : Nat) (a1 : A1) (a2 : A2) (b1 : B1) (b2 : B2), n ≤ e → e - n < N → e - n + 1 < M → I n a1 a2 b1 b2 → R2 (loop2 f N a1 a2) (loop2 g M b1 b2) Q
  | 0, M, n, a1, a2, b1, b2, _, hN, _, _ => absurd hN (Nat.not_lt_zero _)
  | N + 1, 0, n, a1, a2, b1, b2, _, _, hM, _ => absurd hM (Nat.not_lt_zero _)
  | N + 1, 1, n, a1, a2, b1, b2, _, _, hM, _ => absurd hM (by omega)
  | N + 1, M + 1 + 1, n, a1, a2, b1, b2, hn, hN, hM, hI => by
    by_cases hne : n < e
    · exact h _ _ n a1 a2 b1 b2 hne hI (fun c1 c2 d1 d2 hI2 => lpR22t e I h hend N (M + 1) (n + 1) c1 c2 d1 d2 hne (by omega) (by omega) hI2)
    · have : n = e := by omega
      subst this
      exact hend N M a1 a2 b1 b2 hI
/-- the running most -/
def gx (m : Nat → Int32) (T : Nat → Nat → Int32) (x p : Nat) (i0 : Int32) : Nat → Int32
  | 0 => i0
  | k + 1 => if x.testBit k = true then gx m T x p i0 k else q12_greater (gx m T x p i0 k) (fr m p k + T (x + 2 ^ k) k)
theorem gx_s {m : Nat → Int32} {T : Nat → Nat → Int32} {x p k : Nat} {i0 : Int32} : gx m T x p i0 (k + 1) = if x.testBit k = true then gx m T x p i0 k else q12_greater (gx m T x p i0 k) (fr m p k + T (x + 2 ^ k) k) := rfl
theorem gx_full {m : Nat → Int32} {T : Nat → Nat → Int32} {x p : Nat} {i0 : Int32} : ∀ {k : Nat}, (∀ o, o < k → x.testBit o = true) → gx m T x p i0 k = i0
  | 0, _ => rfl
  | k + 1, h => by rw [gx_s, if_pos (h k (by omega))]; exact gx_full (fun o ho => h o (by omega))
theorem gx_congr {m : Nat → Int32} {T T' : Nat → Nat → Int32} {x p : Nat} {i0 : Int32} : ∀ {k : Nat}, (∀ o, o < k → x.testBit o = false → T (x + 2 ^ o) o = T' (x + 2 ^ o) o) → gx m T x p i0 k = gx m T' x p i0 k
  | 0, _ => rfl
  | k + 1, h => by
    rw [gx_s, gx_s, gx_congr (fun o ho => h o (by omega))]
    by_cases hb : x.testBit k = true
    · rw [if_pos hb, if_pos hb]
    · rw [if_neg hb, if_neg hb, h k (by omega) (Bool.not_eq_true _ |>.mp hb)]
theorem gr_nI {a b : Nat} (ha : a < 2 ^ 31) (hb : b < 2 ^ 31) : q12_greater (nI a) (nI b) = nI (max a b) := by
  unfold q12_greater
  by_cases h : b < a
  · rw [if_pos (nI_lt h ha), Nat.max_eq_left (by omega)]
  · rw [if_neg (fun q => h ((nI_ltI hb ha).mp q)), Nat.max_eq_right (by omega)]
theorem gr_m1 {b : Nat} (hb : b < 2 ^ 31) : q12_greater (-1) (nI b) = nI b := by
  unfold q12_greater
  rw [if_neg]
  intro q
  rw [Int32.lt_iff_toInt_lt, m1_toInt, nI_toInt hb] at q
  omega
/-- what the most is, where all values are numbers -/
theorem gx_val {m : Nat → Int32} {T : Nat → Nat → Int32} {n x p : Nat} (hW : WFm m n) (hn : n ≤ 6) (hp : p < n) {B : Nat} (hB : B ≤ 1000) (hT : ∀ o, o < n → x.testBit o = false → ∃ t, t ≤ B ∧ T (x + 2 ^ o) o = nI t) : ∀ k, k ≤ n → ((∀ o, o < k → x.testBit o = true) ∧ gx m T x p (-1) k = -1 ∧ gx m T x p 0 k = 0) ∨ ((∃ t, t ≤ B + 18 ∧ gx m T x p (-1) k = nI t) ∧ gx m T x p (-1) k = gx m T x p 0 k ∧ ∃ o, o < k ∧ x.testBit o = false ∧ gx m T x p (-1) k = fr m p o + T (x + 2 ^ o) o)
  | 0, _ => Or.inl ⟨fun o ho => absurd ho (Nat.not_lt_zero _), rfl, rfl⟩
  | k + 1, hk => by
    have ih := gx_val hW hn hp hB hT k (by omega)
    by_cases hb : x.testBit k = true
    · rw [gx_s, gx_s, if_pos hb, if_pos hb]
      rcases ih with ⟨h1, h2, h3⟩ | ⟨h1, h2, o, h3, h4, h5⟩
      · refine Or.inl ⟨fun o ho => ?_, h2, h3⟩
        by_cases hok : o = k
        · rw [hok]; exact hb
        · exact h1 o (by omega)
      · exact Or.inr ⟨h1, h2, o, by omega, h4, h5⟩
    · have hbf := Bool.not_eq_true _ |>.mp hb
      obtain ⟨t, ht, et⟩ := hT k (by omega) hbf
      have hf := frN_le (m := m) (p := p) (q := k)
      have ev : fr m p k + T (x + 2 ^ k) k = nI (frN m p k + t) := by rw [fr_nI hW hp (by omega), et, nI_add]
      rw [gx_s, gx_s, if_neg hb, if_neg hb, ev]
      rcases ih with ⟨h1, h2, h3⟩ | ⟨⟨t1, ht1, et1⟩, h2, o, h3, h4, h5⟩
      · rw [h2, h3, gr_m1 (by omega), show (0 : Int32) = nI 0 from rfl, gr_nI (by omega) (by omega), Nat.max_eq_right (by omega)]
        exact Or.inr ⟨⟨_, by omega, rfl⟩, rfl, k, by omega, hbf, ev.symm⟩
      · rw [← h2, et1, gr_nI (by omega) (by omega)]
        refine Or.inr ⟨⟨max t1 (frN m p k + t), by omega, rfl⟩, rfl, ?_⟩
        by_cases hc : frN m p k + t ≤ t1
        · rw [Nat.max_eq_left hc]
          exact ⟨o, by omega, h4, by rw [← et1]; exact h5⟩
        · rw [Nat.max_eq_right (by omega)]
          exact ⟨k, by omega, hbf, ev.symm⟩
def Tc (s : St) (x p : Nat) : Int32 := s 30 (x * 6 + p)
def Tm (u : St) (x p : Nat) : Int32 := u 17 (8 * x + p)
def in0 (m : Nat → Int32) (n p : Nat) : Int32 := if 2 < n then fr m p 0 else 0
theorem ix_8 (x o : Nat) : (8 : Int32) * nI x + nI o = nI (8 * x + o) := by
  show nI 8 * nI x + nI o = _
  rw [pk_mul, nI_add]
/-- one row of the reference's table -/
theorem rowM {u : St} {m : Nat → Int32} {n x : Nat} (hn : n ≤ 6) (h1 : u 1 = m) (h3 : m 3 = nI n) (hx : x < 2 ^ n) : Wo (loop2 (fun (rec20_ : Int32 → St → Option (Int32 × St)) (p23_ : Int32) (σ24_ : St) =>
    Option.bind (ag σ24_ 1 752 3) fun x29_ =>
    if p23_ < x29_ then
    Option.bind (Option.bind (q12_all σ24_) fun x38_ =>
    if nI x = x38_ then (Option.bind (Option.bind (ag σ24_ 1 752 3) fun x46_ =>
    if 2 < x46_ then (Option.bind (q12_friends σ24_ p23_ 0) fun x49_ =>
    some x49_) else (some (0 : Int32))) fun x41_ =>
    some x41_) else (some (-1 : Int32))) fun x33_ =>
    Option.bind (loop2 (fun (rec56_ : Int32 → Int32 → Option (Int32 × Int32)) (most59_ : Int32) (o60_ : Int32) =>
    Option.bind (ag σ24_ 1 752 3) fun x65_ =>
    if o60_ < x65_ then
    Option.bind (if ¬ (q12_isOf (nI x) o60_ = true) then (Option.bind (q12_friends σ24_ p23_ o60_) fun x76_ =>
    Option.bind (ag σ24_ 17 1024 ((8 * (nI x ||| (shl 1 o60_))) + o60_)) fun x78_ =>
    some (q12_greater most59_ (x76_ + x78_))) else (some (most59_))) fun y69_ =>
    rec56_ y69_ (o60_ + 1)
    else (some (most59_, o60_))) fuelN x33_ (0 : Int32)) fun y53_ =>
    Option.bind (sa σ24_ 17 1024 ((8 * nI x) + p23_) y53_.1) fun σ84_ =>
    rec20_ (p23_ + 1) σ84_
    else (some (p23_, σ24_))) fuelN (0 : Int32) u) (fun r => (∀ p, p < n → Tm r.2 x p = gx m (Tm u) x p (if x = 2 ^ n - 1 then in0 m n p else -1) n) ∧ (∀ y p, p < n → y ≠ x → Tm r.2 y p = Tm u y p) ∧ ∀ i, i ≠ 17 → r.2 i = u i) := by
  have hpw := pow_le6 hn
  refine lpW2 n (fun k a v => a = nI k ∧ (∀ p, p < k → Tm v x p = gx m (Tm u) x p (if x = 2 ^ n - 1 then in0 m n p else -1) n) ∧ (∀ y p, p < n → y ≠ x → Tm v y p = Tm u y p) ∧ ∀ i, i ≠ 17 → v i = u i) ?_ fuelN 0 0 u (Nat.zero_le _) (fuel_ok (by omega)) ⟨rfl, fun p hp => absurd hp (Nat.not_lt_zero _), fun _ _ _ _ => rfl, fun _ _ => rfl⟩
  rintro rec k a v hk ⟨rfl, v1, v2, v3⟩ IH
  have e1 : v 1 = m := (v3 1 (by decide)).trans h1
  refine wo_st ag3 ?_
  rw [e1, h3]
  refine wo_ite (fun hlt => ?_) (fun hge => ?_)
  · have hkn : k < n := (nI_ltI (by omega) (by omega)).mp hlt
    have ei : (Option.bind (q12_all v) fun x38_ => if nI x = x38_ then (Option.bind (Option.bind (ag v 1 752 3) fun x46_ => if 2 < x46_ then (Option.bind (q12_friends v (nI k) 0) fun x49_ => some x49_) else (some (0 : Int32))) fun x41_ => some x41_) else (some (-1 : Int32))) = some (if x = 2 ^ n - 1 then in0 m n k else -1) := by
      have e2 : (2 : Int32) < nI n ↔ 2 < n := nI_ltI (a := 2) (by omega) (by omega)
      rw [all_ok (n := n) (by rw [e1]; exact h3), all_nI n (by omega), ag3, e1, h3, show (0 : Int32) = nI 0 from rfl, frM e1 (by omega) (by omega)]
      simp only [Option.bind_some]
      by_cases hx2 : x = 2 ^ n - 1
      · rw [if_pos hx2, if_pos (congrArg nI hx2)]
        unfold in0
        by_cases h2 : 2 < n
        · rw [if_pos h2, if_pos (e2.mpr h2)]; rfl
        · rw [if_neg h2, if_neg (fun q => h2 (e2.mp q))]; rfl
      · rw [if_neg hx2, if_neg (fun q => hx2 ((nI_eq (by omega) (by omega)).mp q))]
    refine wo_st ei ?_
    refine wo_bind ?_
    refine lpW2 n (fun j a q => q = nI j ∧ a = gx m (Tm u) x k (if x = 2 ^ n - 1 then in0 m n k else -1) j) ?_ fuelN 0 _ 0 (Nat.zero_le _) (fuel_ok (by omega)) ⟨rfl, rfl⟩
    rintro rec2 j a q hj ⟨rfl, rfl⟩ IH2
    refine wo_st ag3 ?_
    rw [e1, h3]
    refine wo_ite (fun hlt2 => ?_) (fun hge2 => ?_)
    · have hjn : j < n := (nI_ltI (by omega) (by omega)).mp hlt2
      have hs := gx_s (m := m) (T := Tm u) (x := x) (p := k) (k := j) (i0 := if x = 2 ^ n - 1 then in0 m n k else -1)
      rw [isOf_isIn, isIn_bit x (by omega) j (by omega)]
      by_cases hb : x.testBit j = true
      · rw [if_pos hb] at hs
        rw [if_neg (not_not_intro hb)]
        simp only [Option.bind_some]
        rw [nI_1]
        exact IH2 _ _ hjn ⟨rfl, hs.symm⟩
      · have hbf := Bool.not_eq_true _ |>.mp hb
        obtain ⟨n1, n2, -⟩ := new_in n (by omega) x hx j hjn hbf
        rw [if_neg hb] at hs
        rw [if_pos hb, or_new x (by omega) j (by omega) hbf, frM e1 (by omega) (by omega), ag_nI (ix_8 _ _) (by omega) (by decide)]
        simp only [Option.bind_some]
        have hv : v 17 (8 * (x + 2 ^ j) + j) = Tm u (x + 2 ^ j) j := v2 (x + 2 ^ j) j hjn (by omega)
        rw [hv, nI_1]
        exact IH2 _ _ hjn ⟨rfl, hs.symm⟩
    · have hjn : j = n := by
        have : ¬ j < n := fun q => hge2 (nI_lt q (by omega))
        omega
      subst hjn
      refine wo_some ?_
      dsimp only
      refine wo_st (sa_nI (ix_8 _ _) (by omega) (by decide)) ?_
      rw [nI_1]
      refine IH _ _ hkn ⟨rfl, fun p hp => ?_, fun y p hp hy => ?_, fun i hi => by rw [up_pl hi]; exact v3 i hi⟩
      · unfold Tm
        by_cases hpk : p = k
        · subst hpk; rw [up_at]
        · rw [up_off (by omega)]; exact v1 p (by omega)
      · unfold Tm
        rw [up_off (by omega)]; exact v2 y p hp hy
  · have : k = n := by
      have : ¬ k < n := fun q => hge (nI_lt q (by omega))
      omega
    subst this
    exact wo_some ⟨v1, v2, v3⟩
/-- one row of the class's table -/
theorem rowC {σ σ' s : St} {m : Nat → Int32} {n x : Nat} (hn : n ≤ 6) (hM : MetV σ σ' m n) (hs : ∀ i, i ≠ 30 → s i = σ' i) (hx : x < 2 ^ n) : Wo (loop2 (fun (rec20_ : Int32 → St → Option (Int32 × St)) (last23_ : Int32) (σ24_ : St) =>
    if last23_ < (σ24_ 27 3) then
    Option.bind (q1_tourFrom σ24_ (nI x) last23_) fun x31_ =>
    Option.bind (sa σ24_ 30 384 ((nI x * 6) + last23_) x31_) fun σ33_ =>
    rec20_ (last23_ + 1) σ33_
    else (some (last23_, σ24_))) fuelN (0 : Int32) s) (fun r => (∀ p, p < n → Tc r.2 x p = gx m (Tc s) x p (if x = 2 ^ n - 1 then in0 m n p else 0) n) ∧ (∀ y p, p < n → y ≠ x → Tc r.2 y p = Tc s y p) ∧ ∀ i, i ≠ 30 → r.2 i = σ' i) := by
  have hpw := pow_le6 hn
  refine lpW2 n (fun k a v => a = nI k ∧ (∀ p, p < k → Tc v x p = gx m (Tc s) x p (if x = 2 ^ n - 1 then in0 m n p else 0) n) ∧ (∀ y p, p < n → y ≠ x → Tc v y p = Tc s y p) ∧ ∀ i, i ≠ 30 → v i = σ' i) ?_ fuelN 0 0 s (Nat.zero_le _) (fuel_ok (by omega)) ⟨rfl, fun p hp => absurd hp (Nat.not_lt_zero _), fun _ _ _ _ => rfl, hs⟩
  rintro rec k a v hk ⟨rfl, v1, v2, v3⟩ IH
  have e3 : v 27 3 = nI n := by rw [v3 27 (by decide)]; exact hM.1
  have e4 : v 27 4 = nI (2 ^ n - 1) := by rw [v3 27 (by decide)]; exact hM.2.1
  have e28 : ∀ p q, p < n → q < n → v 28 (p * 6 + q) = fr m p q := fun p q hp hq => by rw [v3 28 (by decide)]; exact hM.2.2.1 p q hp hq
  rw [e3]
  refine wo_ite (fun hlt => ?_) (fun hge => ?_)
  · have hkn : k < n := (nI_ltI (by omega) (by omega)).mp hlt
    have et : q1_tourFrom v (nI x) (nI k) = some (gx m (Tc s) x k (if x = 2 ^ n - 1 then in0 m n k else 0) n) := by
      have h : Wo (q1_tourFrom v (nI x) (nI k)) (fun r => r = gx m (Tc s) x k (if x = 2 ^ n - 1 then in0 m n k else 0) n) := by
        unfold q1_tourFrom
        dsimp only [lt]
        rw [e3, e4]
        by_cases hx2 : x = 2 ^ n - 1
        · rw [if_pos (congrArg nI hx2), if_pos hx2, gx_full (fun o ho => by rw [hx2]; exact all_bit n (by omega) o ho)]
          have e2 : (2 : Int32) < nI n ↔ 2 < n := nI_ltI (a := 2) (by omega) (by omega)
          unfold in0
          by_cases h2 : 2 < n
          · rw [if_pos h2, if_pos (e2.mpr h2), ag_nI (k := k * 6 + 0) (by
              show nI k * nI 6 = _
              rw [pk_mul]
              rfl) (by omega) (by decide), e28 k 0 hkn (by omega)]
            exact wo_some rfl
          · rw [if_neg h2, if_neg (fun q => h2 (e2.mp q))]
            exact wo_some rfl
        · rw [if_neg (fun q => hx2 ((nI_eq (by omega) (by omega)).mp q)), if_neg hx2]
          refine wo_bind ?_
          refine lpW2 n (fun j a q => q = nI j ∧ a = gx m (Tc s) x k 0 j) ?_ fuelN 0 _ 0 (Nat.zero_le _) (fuel_ok (by omega)) ⟨rfl, rfl⟩
          rintro rec2 j a q hj ⟨rfl, rfl⟩ IH2
          refine wo_ite (fun hlt2 => ?_) (fun hge2 => ?_)
          · have hjn : j < n := (nI_ltI (by omega) (by omega)).mp hlt2
            have hss := gx_s (m := m) (T := Tc s) (x := x) (p := k) (k := j) (i0 := 0)
            rw [isIn_bit x (by omega) j (by omega)]
            by_cases hb : x.testBit j = true
            · rw [if_pos hb] at hss
              rw [if_neg (not_not_intro hb)]
              simp only [Option.bind_some]
              rw [nI_1]
              exact IH2 _ _ hjn ⟨rfl, hss.symm⟩
            · have hbf := Bool.not_eq_true _ |>.mp hb
              obtain ⟨n1, n2, -⟩ := new_in n (by omega) x hx j hjn hbf
              rw [if_neg hb] at hss
              unfold q1_tourWith
              dsimp only [lt]
              rw [if_pos hb, or_new x (by omega) j (by omega) hbf, ag_nI (ix_6 k j) (by omega) (by decide), e28 k j hkn hjn, ag_nI (ix_6 (x + 2 ^ j) j) (by omega) (by decide)]
              simp only [Option.bind_some]
              have hv : v 30 ((x + 2 ^ j) * 6 + j) = Tc s (x + 2 ^ j) j := v2 (x + 2 ^ j) j hjn (by omega)
              rw [hv, nI_1, imax_gr]
              exact IH2 _ _ hjn ⟨rfl, hss.symm⟩
          · have hjn : j = n := by
              have : ¬ j < n := fun q => hge2 (nI_lt q (by omega))
              omega
            subst hjn
            exact wo_some (wo_some rfl)
      obtain ⟨r, e, rfl⟩ := h
      exact e
    refine wo_st et ?_
    refine wo_st (sa_nI (ix_6 x k) (by omega) (by decide)) ?_
    rw [nI_1]
    refine IH _ _ hkn ⟨rfl, fun p hp => ?_, fun y p hp hy => ?_, fun i hi => by rw [up_pl hi]; exact v3 i hi⟩
    · unfold Tc
      by_cases hpk : p = k
      · subst hpk; rw [up_at]
      · rw [up_off (by omega)]; exact v1 p (by omega)
    · unfold Tc
      rw [up_off (by omega)]; exact v2 y p hp hy
  · have : k = n := by
      have : ¬ k < n := fun q => hge (nI_lt q (by omega))
      omega
    subst this
    exact wo_some ⟨v1, v2, v3⟩
/-- the tables of both, from x on -/
def TTab (m : Nat → Int32) (s u : St) (n K : Nat) : Prop := ∀ x p, K ≤ x → x < 2 ^ n → p < n → Tc s x p = Tm u x p ∧ (∃ t, t ≤ 18 * (7 - pcn x 31) ∧ Tm u x p = nI t) ∧ (x ≠ 2 ^ n - 1 → ∃ o, o < n ∧ x.testBit o = false ∧ Tm u x p = fr m p o + Tm u (x + 2 ^ o) o) ∧ (x = 2 ^ n - 1 → Tm u x p = in0 m n p)
theorem sit_ok {σ σ' ν : St} {m : Nat → Int32} {n : Nat} (hn : n ≤ 6) (h0 : 0 < n) (hM : MetV σ σ' m n) (hW : WFm m n) (h1 : ν 1 = m) (h3 : m 3 = nI n) : R2 (q1_sitDown σ') (q12_tables ν) (fun s u => TTab m s u n 1 ∧ (∀ i, i ≠ 30 → s i = σ' i) ∧ ∀ i, i ≠ 17 → u i = ν i) := by
  have hp := pow_le6 hn
  have hpp : 0 < 2 ^ n := Nat.pow_pos (by omega)
  unfold q1_sitDown q12_tables
  dsimp only [lt]
  refine r2_R (all_ok (n := n) (by rw [h1]; exact h3)) ?_
  rw [hM.2.1, all_nI n (by omega)]
  refine r2_bind ?_
  refine lpR22t (2 ^ n - 1) (fun t a s b u => a = nI (2 ^ n - 1 - t) ∧ b = nI (2 ^ n - 1 - t) ∧ TTab m s u n (2 ^ n - t) ∧ (∀ i, i ≠ 30 → s i = σ' i) ∧ ∀ i, i ≠ 17 → u i = ν i) ?_ ?_ fuelN fuelN 0 _ _ _ _ (Nat.zero_le _) (fuel_ok (by omega)) (by unfold fuelN; omega) ⟨rfl, rfl, fun x p hx1 hx2 => by omega, fun _ _ => rfl, fun _ _ => rfl⟩
  · rintro f g t a s b u ht ⟨rfl, rfl, hT, hs, hu⟩ IH
    have hxt : 2 ^ n - 1 - t < 2 ^ n := by omega
    have hx0 : 0 < 2 ^ n - 1 - t := by omega
    rw [if_pos (show (0 : Int32) < nI (2 ^ n - 1 - t) from nI_lt (a := 0) hx0 (by omega)), if_pos (nI_pos' (by omega))]
    obtain ⟨⟨c, s'⟩, ec, c1, c2, c3⟩ := rowC (x := 2 ^ n - 1 - t) hn hM hs hxt
    obtain ⟨⟨d, u'⟩, ed, d1, d2, d3⟩ := rowM (u := u) (x := 2 ^ n - 1 - t) hn ((hu 1 (by decide)).trans h1) h3 hxt
    refine r2_L ec ?_
    refine r2_R ed ?_
    dsimp only at c1 c2 c3 d1 d2 d3 ⊢
    have e1 : nI (2 ^ n - 1 - t) + -1 = nI (2 ^ n - 1 - (t + 1)) := by
      rw [← Int32.sub_eq_add_neg]
      have := nI_pred (2 ^ n - 1 - (t + 1))
      rw [show 2 ^ n - 1 - (t + 1) + 1 = 2 ^ n - 1 - t from by omega] at this
      exact this
    rw [e1]
    refine IH _ _ _ _ ⟨rfl, rfl, fun x p hx1 hx2 hpn => ?_, c3, fun i hi => by rw [d3 i hi]; exact hu i hi⟩
    by_cases hxx : x = 2 ^ n - 1 - t
    · subst hxx
      generalize hX : 2 ^ n - 1 - t = x at *
      have hTx : ∀ o, o < n → x.testBit o = false → Tc s (x + 2 ^ o) o = Tm u (x + 2 ^ o) o := fun o ho hb => by
        obtain ⟨n1, n2, n3⟩ := new_in n (by omega) x hx2 o ho hb
        exact (hT (x + 2 ^ o) o (by omega) n1 ho).1
      rw [c1 p hpn, d1 p hpn, gx_congr hTx]
      by_cases hall : x = 2 ^ n - 1
      · rw [if_pos hall, if_pos hall, gx_full (fun o ho => by rw [hall]; exact all_bit n (by omega) o ho)]
        refine ⟨rfl, ?_, fun q => absurd hall q, fun _ => rfl⟩
        have hf := frN_le (m := m) (p := p) (q := 0)
        have h6 := pcn_6 x (by omega)
        unfold in0
        by_cases h2 : 2 < n
        · rw [if_pos h2, fr_nI hW hpn (by omega)]
          exact ⟨_, by omega, rfl⟩
        · rw [if_neg h2]
          exact ⟨0, by omega, rfl⟩
      · rw [if_neg hall, if_neg hall]
        have h6 := pcn_6 x (by omega)
        obtain ⟨o1, ho1, hb1⟩ := gap n (by omega) x hx2 hall
        have hpc : pcn x 31 < 6 := by
          have a1 := (new_in n (by omega) x hx2 o1 ho1 hb1)
          have a2 := pcn_6 (x + 2 ^ o1) (by omega)
          omega
        have hv := gx_val (m := m) (T := Tm u) (x := x) (p := p) hW hn hpn (B := 18 * (6 - pcn x 31)) (by omega) (fun o ho hb => by
          obtain ⟨n1, n2, n3⟩ := new_in n (by omega) x hx2 o ho hb
          obtain ⟨t', ht', et'⟩ := (hT (x + 2 ^ o) o (by omega) n1 ho).2.1
          exact ⟨t', by rw [n3] at ht'; omega, et'⟩) n (Nat.le_refl _)
        rcases hv with ⟨q1, -, -⟩ | ⟨⟨t', ht', et'⟩, q2, o, q3, q4, q5⟩
        · rw [q1 o1 ho1] at hb1
          cases hb1
        · refine ⟨q2.symm, ⟨t', by omega, et'⟩, fun _ => ⟨o, q3, q4, ?_⟩, fun q => absurd q hall⟩
          obtain ⟨n1, n2, n3⟩ := new_in n (by omega) x hx2 o q3 q4
          rw [d2 (x + 2 ^ o) o q3 (by omega)]
          exact q5
    · have hxgt : 2 ^ n - 1 - t < x := by omega
      obtain ⟨a1, a2, a3, a4⟩ := hT x p (by omega) hx2 hpn
      rw [c2 x p hpn hxx, d2 x p hpn hxx]
      refine ⟨a1, a2, fun q => ?_, a4⟩
      obtain ⟨o, o1, o2, o3⟩ := a3 q
      obtain ⟨n1, n2, n3⟩ := new_in n (by omega) x hx2 o o1 o2
      exact ⟨o, o1, o2, by rw [d2 (x + 2 ^ o) o o1 (Nat.ne_of_gt (Nat.lt_trans hxgt n2))]; exact o3⟩
  · rintro N M a s b u ⟨rfl, rfl, hT, hs, hu⟩
    rw [Nat.sub_self]
    rw [show 2 ^ n - (2 ^ n - 1) = 1 from by omega] at hT
    obtain ⟨⟨d, u'⟩, ed, d1, d2, d3⟩ := rowM (u := u) (x := 0) hn ((hu 1 (by decide)).trans h1) h3 hpp
    dsimp only at d1 d2 d3
    rw [loop2_s, loop2_s]
    rw [if_neg (show ¬ (0 : Int32) < nI 0 from lt0), if_pos (show (0 : Int32) ≤ nI 0 by decide)]
    refine r2_R ed ?_
    dsimp only
    rw [loop2_s, if_neg (show ¬ (0 : Int32) ≤ nI 0 + -1 by decide)]
    refine r2_some (r2_some ⟨fun x p hx1 hx2 hpn => ?_, hs, fun i hi => (d3 i hi).trans (hu i hi)⟩)
    obtain ⟨a1, a2, a3, a4⟩ := hT x p hx1 hx2 hpn
    show Tc s x p = Tm u' x p ∧ _
    rw [d2 x p hpn (by omega)]
    refine ⟨a1, a2, fun q => ?_, a4⟩
    obtain ⟨o, o1, o2, o3⟩ := a3 q
    obtain ⟨n1, n2, n3⟩ := new_in n (by omega) x hx2 o o1 o2
    exact ⟨o, o1, o2, by rw [d2 (x + 2 ^ o) o o1 (by omega)]; exact o3⟩
theorem nI_m1_ne (k : Nat) : k < 2 ^ 31 → nI k ≠ -1 := fun h => nI_m1 h
theorem fpk_some {M : Nat → Bool} {n o : Nat} (hn : n ≤ 6) (ho : o < n) (hM : M o = true) : ∀ t, t ≤ n → n - t ≤ o → fpk M n t ≠ -1
  | 0, _, h => by omega
  | t + 1, h1, h2 => by
    rw [fpk_s]
    split
    · exact nI_m1_ne (n - 1 - t) (by omega)
    · rename_i hc
      refine fpk_some hn ho hM t (by omega) ?_
      by_cases e : n - 1 - t = o
      · rw [e] at hc
        exact absurd hM hc
      · omega
def besB (m : Nat → Int32) (T : Nat → Nat → Int32) (x p o : Nat) : Bool := !x.testBit o && decide (fr m p o + T (x + 2 ^ o) o = T x p)
theorem beside_ok {σ σ' s : St} {m : Nat → Int32} {n x p : Nat} (hn : n ≤ 6) (hM : MetV σ σ' m n) (hs : ∀ i, i ≠ 30 → s i = σ' i) (hx : x < 2 ^ n) (hp : p < n) : q1_firstBeside s (nI x) (nI p) = some (fpk (besB m (Tc s) x p) n n) := by
  have hpw := pow_le6 hn
  have e3 : s 27 3 = nI n := by rw [hs 27 (by decide)]; exact hM.1
  have h : Wo (q1_firstBeside s (nI x) (nI p)) (fun r => r = fpk (besB m (Tc s) x p) n n) := by
    unfold q1_firstBeside
    dsimp only [lt]
    refine wo_st (ag_nI (ix_6 x p) (by omega) (by decide)) ?_
    refine wo_bind ?_
    refine lpW1 n (fun j q => q = nI j ∧ fpk (besB m (Tc s) x p) n (n - j) = fpk (besB m (Tc s) x p) n n) ?_ fuelN 0 0 (Nat.zero_le _) (fuel_ok (by omega)) ⟨rfl, rfl⟩
    rintro rec j q hj ⟨rfl, hf⟩ IH
    rw [e3]
    refine wo_ite (fun hlt => ?_) (fun hge => ?_)
    · have hjn : j < n := (nI_ltI (by omega) (by omega)).mp hlt
      rw [show n - j = (n - j - 1) + 1 from by omega, fpk_s, show n - 1 - (n - j - 1) = j from by omega] at hf
      have et : (if q11_isIn (nI x) (nI j) = true then (some false) else (Option.bind (q1_tourWith s (nI x) (nI p) (nI j)) fun x21_ => if x21_ = s 30 (x * 6 + p) then (some true) else (some false))) = some (besB m (Tc s) x p j) := by
        unfold besB
        rw [isIn_bit x (by omega) j (by omega)]
        cases hb : x.testBit j with
        | true => rfl
        | false =>
          obtain ⟨n1, n2, -⟩ := new_in n (by omega) x hx j hjn hb
          unfold q1_tourWith
          dsimp only [lt]
          rw [if_neg (by decide), or_new x (by omega) j (by omega) hb, ag_nI (ix_6 p j) (by omega) (by decide), hs 28 (by decide), hM.2.2.1 p j hp hjn, ag_nI (ix_6 (x + 2 ^ j) j) (by omega) (by decide)]
          simp only [Option.bind_some, Bool.not_false, Bool.true_and]
          show (if fr m p j + Tc s (x + 2 ^ j) j = Tc s x p then some true else some false) = _
          by_cases hc : fr m p j + Tc s (x + 2 ^ j) j = Tc s x p
          · rw [if_pos hc, decide_eq_true hc]
          · rw [if_neg hc, decide_eq_false hc]
      rw [et]
      simp only [Option.bind_some]
      by_cases hc : besB m (Tc s) x p j = true
      · rw [if_pos hc] at hf ⊢
        exact wo_some (wo_some hf)
      · rw [if_neg hc] at hf ⊢
        rw [nI_1]
        exact IH _ hjn ⟨rfl, by rw [show n - (j + 1) = n - j - 1 from by omega]; exact hf⟩
    · have : j = n := by
        have : ¬ j < n := fun q => hge (nI_lt q (by omega))
        omega
      subst this
      rw [Nat.sub_self] at hf
      exact wo_some (wo_some hf)
  obtain ⟨r, e, rfl⟩ := h
  exact e
theorem besideM {u : St} {m : Nat → Int32} {n x p : Nat} (hn : n ≤ 6) (h1 : u 1 = m) (hx : x < 2 ^ n) (hp : p < n) : Wo (loop2 (fun (rec59_ : Int32 → Int32 → Option (Int32 × Int32)) (to62_ : Int32) (o63_ : Int32) =>
    if 0 ≤ o63_ then
    Option.bind (Option.bind (if q12_isOf (nI x) o63_ = true then (some false) else (Option.bind (q12_friends u (nI p) o63_) fun x78_ =>
    Option.bind (ag u 17 1024 ((8 * (nI x ||| (shl 1 o63_))) + o63_)) fun x80_ =>
    Option.bind (ag u 17 1024 ((8 * nI x) + nI p)) fun x82_ =>
    if (x78_ + x80_) = x82_ then (some true) else (some false))) fun t75_ =>
    if t75_ = true then (some (o63_)) else (some (to62_))) fun y70_ =>
    rec59_ y70_ (o63_ + (-1))
    else (some (to62_, o63_))) fuelN (-1 : Int32) (nI n - 1)) (fun r => r.1 = fpk (besB m (Tm u) x p) n n) := by
  have hpw := pow_le6 hn
  refine lpW2 n (fun t a o => a = fpk (besB m (Tm u) x p) n t ∧ o = nI (n - t) - 1) ?_ fuelN 0 (-1) (nI n - 1) (Nat.zero_le _) (fuel_ok (by omega)) ⟨rfl, rfl⟩
  rintro rec t a o ht ⟨rfl, rfl⟩ IH
  by_cases hlt : t < n
  · have epr : nI (n - t) - 1 = nI (n - 1 - t) := by
      have := nI_pred (n - 1 - t)
      rw [show n - 1 - t + 1 = n - t from by omega] at this
      exact this
    rw [epr, if_pos (nI_pos' (by omega))]
    have et : (if q12_isOf (nI x) (nI (n - 1 - t)) = true then (some false) else (Option.bind (q12_friends u (nI p) (nI (n - 1 - t))) fun x78_ => Option.bind (ag u 17 1024 ((8 * (nI x ||| (shl 1 (nI (n - 1 - t))))) + (nI (n - 1 - t)))) fun x80_ => Option.bind (ag u 17 1024 ((8 * nI x) + nI p)) fun x82_ => if (x78_ + x80_) = x82_ then (some true) else (some false))) = some (besB m (Tm u) x p (n - 1 - t)) := by
      unfold besB
      rw [isOf_isIn, isIn_bit x (by omega) _ (by omega)]
      cases hb : x.testBit (n - 1 - t) with
      | true => rfl
      | false =>
        obtain ⟨n1, n2, -⟩ := new_in n (by omega) x hx (n - 1 - t) (by omega) hb
        rw [if_neg (by decide), or_new x (by omega) _ (by omega) hb, frM h1 (by omega) (by omega), ag_nI (ix_8 (x + 2 ^ (n - 1 - t)) (n - 1 - t)) (by omega) (by decide), ag_nI (ix_8 x p) (by omega) (by decide)]
        simp only [Option.bind_some, Bool.not_false, Bool.true_and]
        show (if fr m p (n - 1 - t) + Tm u (x + 2 ^ (n - 1 - t)) (n - 1 - t) = Tm u x p then some true else some false) = _
        by_cases hc : fr m p (n - 1 - t) + Tm u (x + 2 ^ (n - 1 - t)) (n - 1 - t) = Tm u x p
        · rw [if_pos hc, decide_eq_true hc]
        · rw [if_neg hc, decide_eq_false hc]
    rw [et]
    simp only [Option.bind_some]
    have e' : nI (n - 1 - t) + -1 = nI (n - (t + 1)) - 1 := by
      rw [show n - (t + 1) = n - 1 - t from by omega, Int32.sub_eq_add_neg]
    by_cases hc : besB m (Tm u) x p (n - 1 - t) = true
    · rw [if_pos hc]
      simp only [Option.bind_some]
      rw [e']
      exact IH _ _ hlt ⟨by rw [fpk_s, if_pos hc], rfl⟩
    · rw [if_neg hc]
      simp only [Option.bind_some]
      rw [e']
      exact IH _ _ hlt ⟨by rw [fpk_s, if_neg hc], rfl⟩
  · have : t = n := by omega
    subst this
    rw [Nat.sub_self, if_neg (by decide)]
    exact wo_some rfl
theorem fpk_congr {M M' : Nat → Bool} {n : Nat} (h : ∀ o, o < n → M o = M' o) : ∀ t, t ≤ n → fpk M n t = fpk M' n t
  | 0, _ => rfl
  | t + 1, ht => by rw [fpk_s, fpk_s, h _ (by omega), fpk_congr h t (by omega)]
theorem pcn_0 : pcn 0 31 = 0 := by decide +kernel
theorem op_table {LR : LRT} : Op_table (RR LR) := by
  intro σ μ hR k
  obtain ⟨n, hN, hV, hW⟩ := hR.nn
  have hn := hN.1
  have h3 := hN.2.2
  have hpw := pow_le6 hn
  have hpp : 0 < 2 ^ n := Nat.pow_pos (by omega)
  obtain ⟨σ', eσ, hM⟩ := meet_ok hV
  have hRm : RR LR σ' (up μ 0 0 0) := (hR.met hM).t0
  unfold q11_table q12_table
  dsimp only [lt]
  rw [eσ]
  simp only [Option.bind_some]
  rw [ag3, up0_1, h3]
  simp only [Option.bind_some]
  by_cases h0 : n = 0
  · subst h0
    have es : q1_sitDown σ' = some σ' := by
      have h : Wo (q1_sitDown σ') (fun r => r = σ') := by
        unfold q1_sitDown
        dsimp only [lt]
        refine wo_bind ?_
        rw [hM.2.1]
        refine lpW2 0 (fun _ a s => a = nI 0 ∧ s = σ') ?_ fuelN 0 _ _ (Nat.le_refl _) (fuel_ok (by omega)) ⟨rfl, rfl⟩
        rintro rec t a s ht ⟨rfl, rfl⟩ IH
        rw [if_neg (show ¬ (0 : Int32) < nI 0 from lt0)]
        exact wo_some (wo_some rfl)
      obtain ⟨r, e, rfl⟩ := h
      exact e
    rw [es, if_pos (show nI 0 = 0 from rfl)]
    simp only [Option.bind_some]
    by_cases hk : k = -1
    · rw [if_pos hk, if_pos hk]
      unfold q1_tableWarmth
      rw [hM.1, if_pos (show nI 0 = 0 from rfl)]
      exact ⟨_, _, rfl, rfl, rfl, hRm⟩
    · rw [if_neg hk, if_neg hk]
      unfold q1_seatAt
      rw [hM.1, if_pos (show k < 0 ∨ nI 0 ≤ k from by
        by_cases hx : k < 0
        · exact Or.inl hx
        · exact Or.inr (Int32.not_lt.mp hx))]
      exact ⟨_, _, rfl, rfl, rfl, hRm⟩
  · rw [if_neg (nI_ne0 (by omega) (by omega))]
    obtain ⟨s, u, es, eu, hT, hs, hu⟩ := sit_ok (ν := up μ 0 0 0) hn (by omega) hM hW up0_1 h3
    rw [es, eu]
    simp only [Option.bind_some]
    have u1 : u 1 = μ 1 := (hu 1 (by decide)).trans up0_1
    have e3 : s 27 3 = nI n := by rw [hs 27 (by decide)]; exact hM.1
    have hRR : RR LR s u := by
      refine RR.sM (μ := up μ 0 0 0) ?_ (hu 1 (by decide)) (hu 2 (by decide)) (hu 4 (by decide)) (hu 5 (by decide)) (by rw [hu 0 (by decide)]) (by rw [hu 0 (by decide)]) (by rw [hu 0 (by decide)]) (by rw [hu 0 (by decide)]) (fun h => h.eq (by rw [hu 0 (by decide)]) (by rw [hu 0 (by decide)]) (by rw [hu 0 (by decide)]))
      exact hRm.sC (fun i hi => hs i (by unfold keepC at hi; omega)) (by rw [hs 1 (by decide)]) (by rw [hs 32 (by decide)]) (by rw [hs 32 (by decide)])
    have h2n : 2 ≤ 2 ^ n := by
      have : 2 ^ 1 ≤ 2 ^ n := Nat.pow_le_pow_right (by omega) (by omega)
      exact this
    rw [ag3, u1, h3]
    simp only [Option.bind_some]
    by_cases hk : k = -1
    · rw [if_pos hk, if_pos hk]
      unfold q1_tableWarmth
      rw [e3, if_neg (nI_ne0 (by omega) (by omega)), ag_nI (j := 6) (k := 1 * 6 + 0) rfl (by decide) (by decide), ag_nI (j := 8) (k := 8 * 1 + 0) rfl (by decide) (by decide)]
      simp only [Option.bind_some]
      obtain ⟨a1, a2, a3, a4⟩ := hT 1 0 (Nat.le_refl _) (by omega) (by omega)
      have a1' : s 30 (1 * 6 + 0) = u 17 (8 * 1 + 0) := a1
      by_cases hn1 : n = 1
      · have a4' : u 17 (8 * 1 + 0) = in0 (μ 1) n 0 := a4 (by rw [hn1])
        have : in0 (μ 1) n 0 = 0 := by unfold in0; rw [if_neg (by omega)]
        rw [if_pos (show nI n = 1 from by rw [hn1]; rfl), a1', a4', this]
        exact ⟨_, _, rfl, rfl, rfl, hRR⟩
      · rw [if_neg (show ¬ nI n = 1 from fun q => hn1 ((nI_eq (b := 1) (by omega) (by omega)).mp q)), a1']
        exact ⟨_, _, rfl, rfl, rfl, hRR⟩
    · rw [if_neg hk, if_neg hk]
      unfold q1_seatAt
      dsimp only [lt]
      rw [e3]
      rcases rng_cases k (n := n) (by omega) with ⟨r1, r2⟩ | ⟨K, hK, rfl, r1, r2⟩
      · rw [if_pos r1, r2]
        exact ⟨_, _, rfl, rfl, rfl, hRR⟩
      · rw [if_neg r1, r2]
        simp only [not_true_eq_false, if_false]
        have key : R2 (Option.bind (loop3 (fun (rec9_ : Int32 → Int32 → Int32 → Option (Sum Int32 (Int32 × Int32 × Int32))) (sitting12_ : Int32) (last13_ : Int32) (i14_ : Int32) =>
            if i14_ < nI K then
            Option.bind (q1_firstBeside s sitting12_ last13_) fun x21_ =>
            if x21_ = (-1) then (some (.inl (-1))) else
            rec9_ (sitting12_ ||| (shl 1 x21_)) x21_ (i14_ + 1)
            else (some (.inr (sitting12_, last13_, i14_)))) fuelN (1 : Int32) (0 : Int32) (0 : Int32)) fun y6_ =>
            Sum.elim (fun x9 => some x9) (fun y6_r => some y6_r.2.1) y6_) (loop3 (fun (rec40_ : Int32 → Int32 → Int32 → Option (Int32 × Int32 × Int32)) (at43_ : Int32) (set44_ : Int32) (i45_ : Int32) =>
            if i45_ < nI K then
            Option.bind (loop2 (fun (rec59_ : Int32 → Int32 → Option (Int32 × Int32)) (to62_ : Int32) (o63_ : Int32) =>
            if 0 ≤ o63_ then
            Option.bind (Option.bind (if q12_isOf set44_ o63_ = true then (some false) else (Option.bind (q12_friends u at43_ o63_) fun x78_ =>
            Option.bind (ag u 17 1024 ((8 * (set44_ ||| (shl 1 o63_))) + o63_)) fun x80_ =>
            Option.bind (ag u 17 1024 ((8 * set44_) + at43_)) fun x82_ =>
            if (x78_ + x80_) = x82_ then (some true) else (some false))) fun t75_ =>
            if t75_ = true then (some (o63_)) else (some (to62_))) fun y70_ =>
            rec59_ y70_ (o63_ + (-1))
            else (some (to62_, o63_))) fuelN (-1 : Int32) (nI n - 1)) fun y56_ =>
            rec40_ y56_.1 (set44_ ||| (shl 1 y56_.1)) (i45_ + 1)
            else (some (at43_, set44_, i45_))) fuelN (0 : Int32) (1 : Int32) (0 : Int32)) (fun a b => a = b.1) := by
          have hW3 : ∀ (m : Option (Sum Int32 (Int32 × Int32 × Int32))) (k : Option (Int32 × Int32 × Int32)), R2 m k (fun a b => ∃ l x i, a = .inr (x, l, i) ∧ b.1 = l) → R2 (Option.bind m fun y6_ => Sum.elim (fun x9 => some x9) (fun y6_r => some y6_r.2.1) y6_) k (fun a b => a = b.1) := by
            rintro m k ⟨a, b, rfl, rfl, l, x, i, rfl, h⟩
            exact ⟨l, b, rfl, rfl, h.symm⟩
          apply hW3
          refine lpR33 K (fun i a l p b c q => p = nI i ∧ q = nI i ∧ ∃ x y, x < 2 ^ n ∧ pcn x 31 = i + 1 ∧ y < n ∧ a = nI x ∧ l = nI y ∧ b = nI y ∧ c = nI x) ?_ fuelN fuelN 0 1 0 0 0 1 0 (Nat.zero_le _) (fuel_ok (by omega)) (fuel_ok (by omega)) ⟨rfl, rfl, 1, 0, by omega, by decide, by omega, rfl, rfl, rfl, rfl⟩
          rintro f g i a l p b c q hi ⟨rfl, rfl, x, y, hx, hpx, hy, rfl, rfl, rfl, rfl⟩ IH
          refine r2_ite Iff.rfl (fun hlt => ?_) (fun _ => r2_some ⟨_, _, _, rfl, rfl⟩)
          have hiK : i < K := (nI_ltI (by omega) (by omega)).mp hlt
          have hx1 : 1 ≤ x := by
            by_cases hz : x = 0
            · subst hz; rw [pcn_0] at hpx; omega
            · omega
          have hxa : x ≠ 2 ^ n - 1 := fun e => by
            have := pcn_all n (by omega)
            rw [← e] at this
            omega
          have hcg : fpk (besB (μ 1) (Tc s) x y) n n = fpk (besB (μ 1) (Tm u) x y) n n := fpk_congr (fun o ho => by
            unfold besB
            rw [(hT x y hx1 hx hy).1]
            cases hb : x.testBit o with
            | true => rfl
            | false =>
              obtain ⟨n1, n2, -⟩ := new_in n (by omega) x hx o ho hb
              rw [(hT (x + 2 ^ o) o (by omega) n1 ho).1]) n (Nat.le_refl _)
          obtain ⟨⟨z, z'⟩, ez, hz⟩ := besideM (u := u) hn u1 hx hy
          refine r2_L (beside_ok hn hM hs hx hy) ?_
          refine r2_R ez ?_
          dsimp only at hz ⊢
          subst hz
          rw [hcg]
          obtain ⟨o, o1, o2, o3⟩ := (hT x y hx1 hx hy).2.2.1 hxa
          have hMo : besB (μ 1) (Tm u) x y o = true := by
            unfold besB
            rw [o2, decide_eq_true o3.symm]
            rfl
          have hne := fpk_some hn o1 hMo n (Nat.le_refl _) (by omega)
          obtain ⟨w, w1, w2, w3, w4⟩ := (fpk_in (M := besB (μ 1) (Tm u) x y) n (Nat.le_refl _)).resolve_left hne
          rw [w4, if_neg (nI_m1 (by omega))]
          have hwb : x.testBit w = false := by
            unfold besB at w3
            rw [Bool.and_eq_true, Bool.not_eq_true'] at w3
            exact w3.1
          obtain ⟨n1, n2, n3⟩ := new_in n (by omega) x hx w w2 hwb
          rw [or_new x (by omega) w (by omega) hwb, nI_1]
          exact IH _ _ _ _ _ _ hiK ⟨rfl, rfl, x + 2 ^ w, w, n1, by omega, w2, rfl, rfl, rfl, rfl⟩
        obtain ⟨a, b, e1, e2, e3'⟩ := key
        have e2' := e2
        refine ⟨(a, s), (b.1, u), ?_, ?_, e3', hRR⟩
        · have e1' := e1
          rw [e1']
          rfl
        · rw [e2']
          rfl

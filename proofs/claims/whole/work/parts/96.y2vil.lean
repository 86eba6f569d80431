/-! LAYER 2: A PERSON'S LINE -/
abbrev VPr : Type := Nat ⊕ (Nat × Nat)
def nuP (T : TxT) (N p : Nat) (H : Int32) : VPr := match nm T N (sk T N p) H with
  | none => .inl (sk T N p)
  | some v => .inr (v, te T N (sk T N p))
def pyP (T : TxT) (N p : Nat) : VPr := if wd T N (sk T N p) 2 = true then (if wd T N (sk T N (te T N (sk T N p))) 3 = true then .inr (0, te T N (sk T N (te T N (sk T N p)))) else if wd T N (sk T N (te T N (sk T N p))) 4 = true then .inr (1, te T N (sk T N (te T N (sk T N p)))) else .inl (sk T N (te T N (sk T N p)))) else .inr (2, p)
def snP (T : TxT) (N p : Nat) : VPr := if wd T N (sk T N p) 5 = true then nuP T N (te T N (sk T N p)) 9 else .inr (0, p)
abbrev PerR : Type := Nat ⊕ (Nat × Nat × Nat × Bool × Nat)
def perP (T : TxT) (N p : Nat) : PerR := if wd T N (sk T N p) 1 = true then
  (match nuP T N (te T N (sk T N p)) 9 with
  | .inl e => .inl e
  | .inr (h, p2) => match pyP T N p2 with
    | .inl e => .inl e
    | .inr (py, p3) => match snP T N p3 with
      | .inl e => .inl e
      | .inr (sn, p4) => if wd T N (sk T N p4) 6 = true then .inr (h, py, sn, true, te T N (sk T N p4)) else .inr (h, py, sn, false, p4)) else .inl (sk T N p)
/-- a number, in class and reference -/
theorem nF_d {T : TxT} {N b : Nat} {s : St} {H : Int32} (h : TK T N s b) : ∃ x s', q6_numberFollows s H = some (x, s') ∧ (∀ i, i ≠ 1 → s' i = s i) ∧ ((∃ e, nuP T N (te T N b) H = .inl e ∧ x = -1 ∧ TK T N s' e) ∨ ∃ v p1, nuP T N (te T N b) H = .inr (v, p1) ∧ x = nI v ∧ v ≤ 999 ∧ nI v ≤ H ∧ p1 ≤ N ∧ TK T N s' (sk T N p1)) := by
  obtain ⟨⟨x, s'⟩, e, h1, h2, h3⟩ := numF_ok (H := H) h
  have ht := te_b (T := T) h.2.1
  have hb := sk_b (T := T) ht.2.1
  have ht2 := te_b (T := T) hb.2
  refine ⟨x, s', e, h3, ?_⟩
  unfold nuP
  cases hn : nm T N (sk T N (te T N b)) H with
  | none =>
    rw [hn] at h1 h2
    rw [if_pos rfl] at h2
    exact Or.inl ⟨_, rfl, h1, h2⟩
  | some v =>
    rw [hn] at h1 h2
    rw [if_neg (fun q => by cases q)] at h2
    have := nm_b hn
    exact Or.inr ⟨v, _, rfl, h1, this.1, this.2, ht2.2.1, h2⟩
theorem fg_d {T : TxT} {N p : Nat} {w : St} {H : Int32} (h : PM T N w p) (h12 : w 0 12 = -1) : (∃ e, nuP T N p H = .inl e ∧ e ≤ N ∧ ∃ x q, q ≤ N ∧ q12_figures w 0 H = some (x, up (up w 0 11 (nI q)) 0 12 (nI e))) ∨ ∃ v p1, nuP T N p H = .inr (v, p1) ∧ v ≤ 999 ∧ nI v ≤ H ∧ p1 ≤ N ∧ q12_figures w 0 H = some (nI v, up w 0 11 (nI p1)) := by
  have hb := sk_b (T := T) h.2.1
  have ht := te_b (T := T) hb.2
  unfold nuP
  rcases fig12 (H := H) h h12 with ⟨v, e1, e2⟩ | ⟨e1, x, q, hq, e2⟩
  · have := nm_b e1
    rw [e1]
    exact Or.inr ⟨v, _, rfl, this.1, this.2, ht.2.1, e2⟩
  · rw [e1]
    exact Or.inl ⟨_, rfl, hb.2, x, q, hq, e2⟩
theorem up_nk {σ : St} {i k j l : Nat} {x : Int32} (h : j ≠ i ∨ l ≠ k) : up σ i k x j l = σ j l := by
  by_cases hj : j = i
  · subst hj
    exact up_off (h.elim (fun q => absurd rfl q) id)
  · rw [up_pl hj]
/-- what the class has of a person -/
def PerC (s y : St) (n : Nat) (h py sn : Nat) (st : Bool) : Prop := y 54 8 = nI (n + 1) ∧ y 55 n = nI h ∧ y 56 n = nI py ∧ y 57 n = nI sn ∧ y 54 9 = (if st = true then s 54 9 ||| shl 1 (nI n) else s 54 9) ∧ ∀ i k, i ≠ 1 → ¬ (i = 54 ∧ (k = 8 ∨ k = 9)) → ¬ ((i = 55 ∨ i = 56 ∨ i = 57) ∧ k = n) → y i k = s i k
theorem PerC.mv {s y y' : St} {n h py sn : Nat} {st : Bool} (H : PerC s y n h py sn st) (e : ∀ i, i ≠ 1 → y' i = y i) : PerC s y' n h py sn st := by
  obtain ⟨h1, h2, h3, h4, h5, h6⟩ := H
  refine ⟨?_, ?_, ?_, ?_, ?_, fun i k h0 ha hb => ?_⟩
  · rw [e 54 (by decide)]; exact h1
  · rw [e 55 (by decide)]; exact h2
  · rw [e 56 (by decide)]; exact h3
  · rw [e 57 (by decide)]; exact h4
  · rw [e 54 (by decide)]; exact h5
  · rw [e i h0]; exact h6 i k h0 ha hb
theorem PerC.py {s y : St} {n h py sn : Nat} {st : Bool} (H : PerC s y n h py sn st) (q : Nat) : PerC s (up y 56 n (nI q)) n h q sn st := by
  obtain ⟨h1, h2, h3, h4, h5, h6⟩ := H
  refine ⟨?_, ?_, up_at, ?_, ?_, fun i k h0 ha hb => ?_⟩
  · rw [up_pl (by decide)]; exact h1
  · rw [up_pl (by decide)]; exact h2
  · rw [up_pl (by decide)]; exact h4
  · rw [up_pl (by decide)]; exact h5
  · rw [up_nk (by omega)]; exact h6 i k h0 ha hb
theorem PerC.sn {s y : St} {n h py sn : Nat} {st : Bool} (H : PerC s y n h py sn st) (q : Nat) : PerC s (up y 57 n (nI q)) n h py q st := by
  obtain ⟨h1, h2, h3, h4, h5, h6⟩ := H
  refine ⟨?_, ?_, ?_, up_at, ?_, fun i k h0 ha hb => ?_⟩
  · rw [up_pl (by decide)]; exact h1
  · rw [up_pl (by decide)]; exact h2
  · rw [up_pl (by decide)]; exact h3
  · rw [up_pl (by decide)]; exact h5
  · rw [up_nk (by omega)]; exact h6 i k h0 ha hb
theorem PerC.st {s y : St} {n h py sn : Nat} (H : PerC s y n h py sn false) : PerC s (up y 54 9 (y 54 9 ||| shl 1 (nI n))) n h py sn true := by
  obtain ⟨h1, h2, h3, h4, h5, h6⟩ := H
  rw [if_neg (by decide)] at h5
  refine ⟨?_, ?_, ?_, ?_, ?_, fun i k h0 ha hb => ?_⟩
  · rw [up_off (by decide)]; exact h1
  · rw [up_pl (by decide)]; exact h2
  · rw [up_pl (by decide)]; exact h3
  · rw [up_pl (by decide)]; exact h4
  · rw [up_at, if_pos rfl, h5]
  · rw [up_nk (by omega)]; exact h6 i k h0 ha hb
def Fc54 (s s' : St) : Prop := ∀ i, i ≠ 1 → i < 54 ∨ 64 ≤ i → s' i = s i
theorem Fc54.rf {s : St} : Fc54 s s := fun _ _ _ => rfl
theorem Fc54.tr {s s1 s2 : St} (h : Fc54 s s1) (h' : Fc54 s1 s2) : Fc54 s s2 := fun i a b => (h' i a b).trans (h i a b)
theorem Fc54.up {s s1 : St} {i k : Nat} {x : Int32} (h : Fc54 s s1) (hi : 54 ≤ i ∧ i < 64) : Fc54 s (up s1 i k x) := fun j a b => by rw [up_pl (by omega)]; exact h j a b
theorem Fc54.ad {s s1 s2 : St} (h : Fc54 s s1) (h' : ∀ i, i ≠ 1 → s2 i = s1 i) : Fc54 s s2 := fun j a b => (h' j a).trans (h j a b)
theorem PerC.fc {s y : St} {n h py sn : Nat} {st : Bool} (H : PerC s y n h py sn st) : Fc54 s y := fun i a b => funext (fun k => H.2.2.2.2.2 i k a (by omega) (by omega))
theorem TK.vu {T : TxT} {N b i k : Nat} {s : St} {x : Int32} (h : TK T N s b) (hi : 54 ≤ i) : TK T N (up s i k x) b := h.mv (up_pl (by omega)) (up_pl (by omega))
def PerO (T : TxT) (N n : Nat) (s : St) (r : PerR) (x : Bool × St) : Prop := match r with
  | .inl e => x.1 = false ∧ TK T N x.2 e ∧ Fc54 s x.2
  | .inr (h, py, sn, st, p1) => x.1 = true ∧ p1 ≤ N ∧ TK T N x.2 (sk T N p1) ∧ PerC s x.2 n h py sn st ∧ h ≤ 9 ∧ py ≤ 2 ∧ sn ≤ 9
theorem le9 {v : Nat} (h : v ≤ 999) (h' : nI v ≤ 9) : v ≤ 9 := by
  have := (nI_leI (b := 9) (by omega) (by decide)).mp h'
  omega
theorem party_C {T : TxT} {N n p : Nat} {s : St} (hn : n < 6) (hp : p ≤ N) (h : TK T N s (sk T N p)) : ∃ b s', (Option.bind (q8_isWord s 2) fun x33_ =>
  if x33_ = true then (Option.bind (q6_readParty s (nI n)) fun x36_ =>
  if x36_.1 = true then (some (false, x36_.2)) else (some (true, x36_.2))) else (some (false, s))) = some (b, s') ∧ ((∃ e, pyP T N p = .inl e ∧ b = true ∧ TK T N s' e ∧ ∀ i, i ≠ 1 → s' i = s i) ∨ ∃ py p1, pyP T N p = .inr (py, p1) ∧ b = false ∧ py ≤ 2 ∧ p1 ≤ N ∧ TK T N s' (sk T N p1) ∧ ((py = 2 ∧ s' = s) ∨ ∀ i, i ≠ 1 → s' i = up s 56 n (nI py) i)) := by
  have hb := sk_b (T := T) hp
  have ht := te_b (T := T) hb.2
  have hb2 := sk_b (T := T) ht.2.1
  have ht2 := te_b (T := T) hb2.2
  rw [word_ok h (by decide)]
  simp only [Option.bind_some]
  unfold pyP
  cases wd T N (sk T N p) 2 with
  | false =>
    simp only [Bool.false_eq_true, if_false]
    exact ⟨false, s, rfl, Or.inr ⟨2, p, rfl, rfl, by omega, hp, h, Or.inl ⟨rfl, rfl⟩⟩⟩
  | true =>
    simp only [if_true]
    unfold q6_readParty
    obtain ⟨s1, e1, t1, f1⟩ := adv_ok h
    rw [e1]
    simp only [Option.bind_some]
    rw [word_ok t1 (by decide), word_ok t1 (by decide)]
    simp only [Option.bind_some]
    have fin : ∀ py : Nat, py ≤ 1 → ∃ s', (Option.bind (sa s1 (54 + 2) 6 (nI n) (nI py)) fun σ23_ => Option.bind (q8_advance σ23_) fun x25_ => some (true, x25_)) = some (true, s') ∧ TK T N s' (sk T N (te T N (sk T N (te T N (sk T N p))))) ∧ ∀ i, i ≠ 1 → s' i = up s 56 n (nI py) i := fun py hpy => by
      rw [show sa s1 (54 + 2) 6 (nI n) (nI py) = some (up s1 56 n (nI py)) from sa_nI (k := n) rfl hn (by decide)]
      simp only [Option.bind_some]
      obtain ⟨s2, e2, t2, f2⟩ := adv_ok (t1.vu (i := 56) (k := n) (x := nI py) (by decide))
      rw [e2]
      refine ⟨s2, rfl, t2, fun i hi => ?_⟩
      rw [f2 i hi]
      by_cases h56 : i = 56
      · subst h56
        funext k
        by_cases hk : k = n
        · rw [hk, up_at, up_at]
        · rw [up_off hk, up_off hk, f1 56 (by decide)]
      · rw [up_pl h56, up_pl h56, f1 i hi]
    cases h3 : wd T N (sk T N (te T N (sk T N p))) 3 with
    | true =>
      simp only [if_true, Option.bind_some, Bool.false_eq_true, if_false]
      obtain ⟨s', e, t, f⟩ := fin 0 (by omega)
      rw [show (0 : Int32) = nI 0 from rfl, e]
      simp only [Option.bind_some, if_true]
      exact ⟨false, s', rfl, Or.inr ⟨0, _, rfl, rfl, by omega, ht2.2.1, t, Or.inr f⟩⟩
    | false =>
      cases h4 : wd T N (sk T N (te T N (sk T N p))) 4 with
      | true =>
        simp only [if_true, Option.bind_some, Bool.false_eq_true, if_false]
        obtain ⟨s', e, t, f⟩ := fin 1 (by omega)
        rw [show (1 : Int32) = nI 1 from rfl, e]
        simp only [Option.bind_some, if_true]
        exact ⟨false, s', rfl, Or.inr ⟨1, _, rfl, rfl, by omega, ht2.2.1, t, Or.inr f⟩⟩
      | false =>
        simp only [if_true, Option.bind_some, Bool.false_eq_true, if_false]
        exact ⟨true, s1, rfl, Or.inl ⟨_, rfl, rfl, t1, f1⟩⟩
theorem per_C {T : TxT} {N n b : Nat} {s : St} (hn : n < 6) (h : TK T N s b) (h8 : s 54 8 = nI n) (h57 : s 57 n = 0) : Wo (q6_readPerson s) (fun x => PerO T N n s (perP T N (te T N b)) x) := by
  have ht := te_b (T := T) h.2.1
  have hb := sk_b (T := T) ht.2.1
  unfold q6_readPerson
  simp only [lt_nr]
  rw [h8, if_neg (fun q => by have := (nI_leI (a := 6) (by decide) (by omega)).mp q; omega), nI_1, show sa (up s 54 8 (nI (n + 1))) (54 + 2) 6 (nI n) 2 = some (up (up s 54 8 (nI (n + 1))) 56 n (nI 2)) from sa_nI (k := n) rfl hn (by decide)]
  simp only [Option.bind_some]
  obtain ⟨s1, e1, t1, f1⟩ := adv_ok ((h.vu (i := 54) (k := 8) (x := nI (n + 1)) (by decide)).vu (i := 56) (k := n) (x := nI 2) (by decide))
  rw [e1]
  simp only [Option.bind_some]
  rw [word_ok t1 (by decide)]
  simp only [Option.bind_some]
  have F1 : Fc54 s s1 := ((Fc54.rf.up (by decide)).up (by decide)).ad f1
  unfold perP
  cases wd T N (sk T N (te T N b)) 1 with
  | false =>
    simp only [Bool.false_eq_true, if_false, not_false_iff, if_true]
    exact wo_some ⟨rfl, t1, F1⟩
  | true =>
    simp only [if_true, not_true, if_false]
    obtain ⟨x, s2, e2, f2, hx⟩ := nF_d (H := 9) t1
    rw [e2]
    simp only [Option.bind_some]
    rw [show sa s2 (54 + 1) 6 (nI n) x = some (up s2 55 n x) from sa_nI (k := n) rfl hn (by decide)]
    simp only [Option.bind_some]
    rw [show ag (up s2 55 n x) (54 + 1) 6 (nI n) = some (up s2 55 n x 55 n) from ag_nI (k := n) rfl hn (by decide), up_at]
    simp only [Option.bind_some]
    have F2 : Fc54 s s2 := F1.ad f2
    rcases hx with ⟨e, n1, rfl, n2⟩ | ⟨v, p1, n1, rfl, n2, n3, n4, n5⟩
    · rw [n1, if_pos rfl]
      exact wo_some ⟨rfl, n2.vu (by decide), F2.up (by decide)⟩
    · rw [n1, if_neg (nI_m1 (by omega))]
      have P2 : PerC s (up s2 55 n (nI v)) n v 2 0 false := by
        have f : ∀ i, i ≠ 1 → s2 i = up (up s 54 8 (nI (n + 1))) 56 n (nI 2) i := fun i hi => (f2 i hi).trans (f1 i hi)
        refine ⟨?_, up_at, ?_, ?_, ?_, fun i k h0 ha hb => ?_⟩
        · rw [up_pl (by decide), f 54 (by decide), up_pl (by decide), up_at]
        · rw [up_pl (by decide), f 56 (by decide), up_at]
        · rw [up_pl (by decide), f 57 (by decide), up_pl (by decide), up_pl (by decide)]; exact h57
        · rw [up_pl (by decide), f 54 (by decide), up_pl (by decide), up_off (by decide), if_neg (by decide)]
        · rw [up_nk (by omega), f i h0, up_nk (by omega), up_nk (by omega)]
      obtain ⟨b2, s3, e3, hp3⟩ := party_C hn n4 (n5.vu (i := 55) (k := n) (x := nI v) (by decide))
      rw [e3]
      simp only [Option.bind_some]
      rcases hp3 with ⟨e, m1, rfl, m2, m3⟩ | ⟨py, p3, m1, rfl, m2, m3, m4, m5⟩
      · rw [m1, if_pos rfl]
        exact wo_some ⟨rfl, m2, (F2.up (by decide)).ad m3⟩
      · rw [m1, if_neg (by decide)]
        have P3 : PerC s s3 n v py 0 false := by
          rcases m5 with ⟨rfl, rfl⟩ | m5
          · exact P2
          · exact (P2.py py).mv m5
        rw [word_ok m4 (by decide)]
        simp only [Option.bind_some]
        have hb3 := sk_b (T := T) m3
        have key : ∀ (sn p4 : Nat) (y : St), sn ≤ 9 → p4 ≤ N → TK T N y (sk T N p4) → PerC s y n v py sn false → Wo (Option.bind (Option.bind (Option.bind (ag y (54 + 3) 6 (nI n)) fun x60_ =>
  if ¬ x60_ = (-1) then (Option.bind (q8_isWord y 6) fun x63_ =>
  if x63_ = true then (some true) else (some false)) else (some false)) fun t58_ =>
  if t58_ = true then (Option.bind (q8_advance (up y 54 9 ((y 54 9) ||| (shl 1 (nI n))))) fun x69_ =>
  some (x69_)) else (some (y))) fun y53_ =>
  Option.bind (Option.bind (ag y53_ (54 + 3) 6 (nI n)) fun x76_ =>
  if ¬ x76_ = (-1) then (some true) else (some false)) fun x71_ =>
  some (x71_, y53_)) (fun x => PerO T N n s (if wd T N (sk T N p4) 6 = true then .inr (v, py, sn, true, te T N (sk T N p4)) else .inr (v, py, sn, false, p4)) x) := fun sn p4 y hsn hp4 hy P => by
          have hb4 := sk_b (T := T) hp4
          have ht4 := te_b (T := T) hb4.2
          rw [show ag y (54 + 3) 6 (nI n) = some (y 57 n) from ag_nI (k := n) rfl hn (by decide), P.2.2.2.1]
          simp only [Option.bind_some]
          rw [if_pos (nI_m1 (by omega)), word_ok hy (by decide)]
          simp only [Option.bind_some]
          cases wd T N (sk T N p4) 6 with
          | true =>
            simp only [if_true, Option.bind_some]
            obtain ⟨y2, e4, t4, f4⟩ := adv_ok (hy.vu (i := 54) (k := 9) (x := y 54 9 ||| shl 1 (nI n)) (by decide))
            have P4 := P.st.mv f4
            rw [e4]
            simp only [Option.bind_some]
            rw [show ag y2 (54 + 3) 6 (nI n) = some (y2 57 n) from ag_nI (k := n) rfl hn (by decide), P4.2.2.2.1]
            simp only [Option.bind_some]
            rw [if_pos (nI_m1 (by omega))]
            exact wo_some ⟨rfl, ht4.2.1, t4, P4, le9 n2 n3, m2, hsn⟩
          | false =>
            simp only [Bool.false_eq_true, if_false, Option.bind_some]
            rw [show ag y (54 + 3) 6 (nI n) = some (y 57 n) from ag_nI (k := n) rfl hn (by decide), P.2.2.2.1]
            simp only [Option.bind_some]
            rw [if_pos (nI_m1 (by omega))]
            exact wo_some ⟨rfl, hp4, hy, P, le9 n2 n3, m2, hsn⟩
        unfold snP
        cases wd T N (sk T N p3) 5 with
        | false =>
          simp only [Bool.false_eq_true, if_false, Option.bind_some]
          exact key 0 p3 s3 (by omega) m3 m4 P3
        | true =>
          simp only [if_true]
          obtain ⟨x, s4, e4, f4, hx⟩ := nF_d (H := 9) m4
          rw [e4]
          simp only [Option.bind_some]
          rw [show sa s4 (54 + 3) 6 (nI n) x = some (up s4 57 n x) from sa_nI (k := n) rfl hn (by decide)]
          simp only [Option.bind_some]
          rcases hx with ⟨e, k1, rfl, k2⟩ | ⟨v4, p4, k1, rfl, k2, k3, k4, k5⟩
          · rw [k1]
            rw [show ag (up s4 57 n (-1)) (54 + 3) 6 (nI n) = some (up s4 57 n (-1) 57 n) from ag_nI (k := n) rfl hn (by decide), up_at]
            simp only [Option.bind_some]
            rw [if_neg (fun q => q trivial)]
            simp only [Option.bind_some, Bool.false_eq_true, if_false]
            rw [show ag (up s4 57 n (-1)) (54 + 3) 6 (nI n) = some (up s4 57 n (-1) 57 n) from ag_nI (k := n) rfl hn (by decide), up_at]
            simp only [Option.bind_some]
            rw [if_neg (fun q => q trivial)]
            exact wo_some ⟨rfl, k2.vu (by decide), (P3.fc.ad f4).up (by decide)⟩
          · rw [k1]
            exact key v4 p4 _ (le9 k2 k3) k4 (k5.vu (by decide)) ((P3.mv f4).sn v4)

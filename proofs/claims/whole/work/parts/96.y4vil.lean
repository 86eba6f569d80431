/-! LAYER 2: ONE PERSON MORE -/
theorem new_V {s y : St} {m m' : Nat → Int32} {n h py sn : Nat} {st : Bool} (hn : n < 6) (hV : RVd (vd s 54) m n) (hW : WFm m n) (hC : PerC s y n h py sn st) (hM : PerM m m' n h py sn st) (h9 : h ≤ 9) (hp2 : py ≤ 2) (hs9 : sn ≤ 9) : RVd (vd y 54) m' (n + 1) ∧ WFm m' (n + 1) := by
  obtain ⟨⟨a1, a2, a3⟩, b, ⟨c1, c2⟩, kk, g, ⟨n1, n2, n3, n4, n5, n6⟩, ⟨x1, x2⟩, L, f, l1, l2, l3, l4, l5, l6⟩ := hV
  obtain ⟨C1, C2, C3, C4, C5, C6⟩ := hC
  obtain ⟨M1, M2, M3, M4, M5, M6, M7, M8, M9, M10⟩ := hM
  have eP : ∀ p j, p < n → j < 7 → m' (14 + 7 * p + j) = m (14 + 7 * p + j) := fun p j hp hj => M10 _ (by omega) (by omega) (fun o ho => by omega)
  have eK : ∀ p o, p < n → o < n → m' (63 + 7 * p + o) = m (63 + 7 * p + o) := fun p o hp ho => M10 _ (by omega) (by omega) (fun q hq => by omega)
  have eK5 : ∀ p o, p < n + 1 → o < n + 1 → n ≤ p ∨ n ≤ o → m' (63 + 7 * p + o) = 5 := fun p o hp ho hpo => by
    rcases hpo with q | q
    · have : p = n := by omega
      subst this
      exact (M9 o (by omega)).1
    · have : o = n := by omega
      subst this
      exact (M9 p (by omega)).2
  have eS : bs (fS m') n = bs (fS m) n := bs_congr (fun p hp => by unfold fS; rw [eP p 3 hp (by omega)])
  have eB : bs (fB m') n = bs (fB m) n := bs_congr (fun p hp => by unfold fB; rw [eP p 4 hp (by omega)])
  have e0 : ∀ k, k < 14 → k ≠ 3 → m' k = m k := fun k hk k3 => M10 k k3 (by omega) (fun o ho => by omega)
  have f0 : ∀ k, k ≠ 8 → k ≠ 9 → y 54 k = s 54 k := fun k k8 k9 => C6 54 k (by decide) (by omega) (by omega)
  have fj : ∀ j k, j < 10 → 4 ≤ j ∨ (1 ≤ j ∧ k ≠ n) → y (54 + j) k = s (54 + j) k := fun j k h1 h2 => C6 (54 + j) k (by omega) (by omega) (by omega)
  have hlt := bs_lt (fS m) n
  have h64 : (2 : Nat) ^ n ≤ 64 := by
    rcases (show n = 0 ∨ n = 1 ∨ n = 2 ∨ n = 3 ∨ n = 4 ∨ n = 5 by omega) with rfl | rfl | rfl | rfl | rfl | rfl <;> decide
  refine ⟨⟨⟨by omega, C1, M1⟩, fun p hp => ?_, ⟨?_, ?_⟩, fun p o hp ho hpo => ?_, fun q hq => ?_, ⟨?_, ?_, ?_, ?_, ?_, ?_⟩, ⟨fun p p1 p2 => ?_, fun p o p1 p2 p3 => ?_⟩, L, f, l1, l2, ?_, ?_, ?_, fun a c ha hc => ?_⟩, ?_⟩
  · by_cases hpn : p = n
    · subst hpn
      obtain ⟨-, q1, q2⟩ := x1 p (Nat.le_refl _) hn
      refine ⟨?_, ?_, ?_, ?_, ?_⟩
      · rw [M2]; exact C2
      · rw [M3]; exact C3
      · rw [M4]; exact C4
      · rw [M7, show vd y 54 4 p = y (54 + 4) p from rfl, fj 4 p (by omega) (by omega)]; exact q1
      · rw [M8, show vd y 54 5 p = y (54 + 5) p from rfl, fj 5 p (by omega) (by omega)]; exact q2
    · have hp : p < n := by omega
      obtain ⟨b1, b2, b3, b4, b5⟩ := b p hp
      have := eP p 0 hp (by omega)
      rw [Nat.add_zero] at this
      rw [this, eP p 1 hp (by omega), eP p 2 hp (by omega), eP p 5 hp (by omega), eP p 6 hp (by omega)]
      refine ⟨?_, ?_, ?_, ?_, ?_⟩
      · exact (fj 1 p (by omega) (by omega)).trans b1
      · exact (fj 2 p (by omega) (by omega)).trans b2
      · exact (fj 3 p (by omega) (by omega)).trans b3
      · exact (fj 4 p (by omega) (by omega)).trans b4
      · exact (fj 5 p (by omega) (by omega)).trans b5
  · show y 54 9 = nI (bs (fS m') n + (if fS m' n = true then 2 ^ n else 0))
    have c1 : s 54 9 = nI (bs (fS m) n) := c1
    rw [C5, c1, eS]
    cases st with
    | true =>
      rw [if_pos rfl, if_pos (by unfold fS; rw [M5, if_pos rfl]; rfl), or_bit n hn _ (by omega) hlt]
    | false =>
      rw [if_neg (by decide), if_neg (by unfold fS; rw [M5, if_neg (by decide)]; decide), Nat.add_zero]
  · show y 54 10 = nI (bs (fB m') n + (if fB m' n = true then 2 ^ n else 0))
    rw [f0 10 (by decide) (by decide), eB, if_neg (by unfold fB; rw [M6]; decide), Nat.add_zero]
    exact c2
  · have e6 : vd y 54 6 (p * 6 + o) = s (54 + 6) (p * 6 + o) := fj 6 _ (by omega) (by omega)
    rw [e6]
    by_cases hh : n ≤ p ∨ n ≤ o
    · rw [eK5 p o hp ho hh]
      exact x2 p o (by omega) (by omega) hh
    · rw [eK p o (by omega) (by omega)]
      exact kk p o (by omega) (by omega) hpo
  · rw [e0 (10 + q) (by omega) (by omega)]
    exact (fj 7 q (by omega) (by omega)).trans (g q hq)
  · rw [e0 5 (by omega) (by omega)]; exact (f0 11 (by decide) (by decide)).trans n1
  · rw [e0 4 (by omega) (by omega)]; exact (f0 12 (by decide) (by decide)).trans n2
  · rw [e0 6 (by omega) (by omega)]; exact (f0 13 (by decide) (by decide)).trans n3
  · rw [e0 7 (by omega) (by omega)]; exact (f0 14 (by decide) (by decide)).trans n4
  · rw [e0 9 (by omega) (by omega)]; exact (f0 15 (by decide) (by decide)).trans n5
  · rw [e0 0 (by omega) (by omega)]; exact (f0 16 (by decide) (by decide)).trans n6
  · obtain ⟨q1, q2, q3⟩ := x1 p (by omega) p2
    exact ⟨(fj 3 p (by omega) (by omega)).trans q1, (fj 4 p (by omega) (by omega)).trans q2, (fj 5 p (by omega) (by omega)).trans q3⟩
  · exact (fj 6 _ (by omega) (by omega)).trans (x2 p o p1 p2 (by omega))
  · exact (fj 8 1 (by omega) (by omega)).trans l3
  · exact (fj 8 2 (by omega) (by omega)).trans l4
  · rw [e0 8 (by omega) (by omega)]; exact l5
  · have := l6 a c ha hc
    rw [M10 (112 + 4 * a + c) (by omega) (by omega) (fun o ho => by omega)]
    exact (fj 9 _ (by omega) (by omega)).trans this
  · obtain ⟨w1, w2, w3, w4, w5, w6, w7, w8⟩ := hW
    refine ⟨fun p hp => ?_, fun p o hp ho hpo => ?_, fun q hq => ?_, ?_, ?_, ?_, ?_, ?_⟩
    · by_cases hpn : p = n
      · subst hpn
        rw [M2, M3, M4, M5, M6, M7, M8]
        refine ⟨inR_nI h9, inR_nI hp2, inR_nI hs9, ?_, inR_nI (a := 0) (by omega), inR_nI (a := 0) (by omega), inR_nI (a := 0) (by omega)⟩
        cases st
        · exact inR_nI (a := 0) (by omega)
        · exact inR_nI (a := 1) (by omega)
      · have hp : p < n := by omega
        have := eP p 0 hp (by omega)
        rw [Nat.add_zero] at this
        rw [this, eP p 1 hp (by omega), eP p 2 hp (by omega), eP p 3 hp (by omega), eP p 4 hp (by omega), eP p 5 hp (by omega), eP p 6 hp (by omega)]
        exact w1 p hp
    · by_cases hh : n ≤ p ∨ n ≤ o
      · rw [eK5 p o hp ho hh]
        exact inR_nI (a := 5) (by omega)
      · rw [eK p o (by omega) (by omega)]
        exact w2 p o (by omega) (by omega) hpo
    · rw [e0 (10 + q) (by omega) (by omega)]; exact w3 q hq
    · rw [e0 5 (by omega) (by omega)]; exact w4
    · rw [e0 4 (by omega) (by omega)]; exact w5
    · rw [e0 6 (by omega) (by omega)]; exact w6
    · rw [e0 7 (by omega) (by omega)]; exact w7
    · rw [e0 0 (by omega) (by omega)]; exact w8
/-! a line of both -/
def VL (T : TxT) (N : Nat) (s w : St) (p n : Nat) : Prop := TK T N s (sk T N p) ∧ PM T N w p ∧ w 0 12 = -1 ∧ Wk 54 n s w
def Fr54 (w w' : St) : Prop := (∀ i, i ≠ 0 → i ≠ 1 → w' i = w i) ∧ (∀ k, k = 0 ∨ k = 1 ∨ k = 2 ∨ 352 ≤ k → w' 1 k = w 1 k) ∧ ∀ k, k ≠ 11 → k ≠ 12 → w' 0 k = w 0 k
theorem Fr54.rf {w : St} : Fr54 w w := ⟨fun _ _ _ => rfl, fun _ _ => rfl, fun _ _ _ => rfl⟩
theorem Fr54.tr {w w1 w2 : St} (h : Fr54 w w1) (h' : Fr54 w1 w2) : Fr54 w w2 := ⟨fun i a b => (h'.1 i a b).trans (h.1 i a b), fun k a => (h'.2.1 k a).trans (h.2.1 k a), fun k a b => (h'.2.2 k a b).trans (h.2.2 k a b)⟩
theorem Fr54.u11 {w : St} {x : Int32} : Fr54 w (up w 0 11 x) := ⟨fun i a b => up_pl a, fun k _ => by rw [up_pl (by decide)], fun k a b => up_off a⟩
theorem Fr54.u12 {w : St} {x : Int32} : Fr54 w (up w 0 12 x) := ⟨fun i a b => up_pl a, fun k _ => by rw [up_pl (by decide)], fun k a b => up_off b⟩
theorem Fr54.u1 {w : St} {c : Nat} {x : Int32} (h0 : c ≠ 0) (h1 : c ≠ 1) (h2 : c ≠ 2) (hc : c < 352) : Fr54 w (up w 1 c x) := ⟨fun i a b => up_pl b, fun k hk => up_off (by omega), fun k a b => by rw [up_pl (by decide)]⟩
theorem Fr54.er {N e : Nat} {w y : St} (h : Er2 N w y e) : Fr54 w y := by
  obtain ⟨q, hq, rfl⟩ := h
  exact Fr54.u11.tr Fr54.u12
theorem Fr54.lt {T : TxT} {N : Nat} {w w' : St} (h : LT T N w) (f : Fr54 w w') : LT T N w' := by
  obtain ⟨h1, h2, h3⟩ := h
  unfold LT
  rw [f.1 5 (by decide) (by decide), f.2.2 9 (by decide) (by decide), f.2.2 10 (by decide) (by decide)]
  refine ⟨h1, h2.imp id (fun q => ⟨q.1, fun k hk => ?_⟩), h3⟩
  rw [f.2.1 (352 + k) (by omega)]
  exact q.2 k hk
def LnV (T : TxT) (N : Nat) (s w : St) (x : Option (Bool × St)) (y : Option St) : Prop := (∃ e s' w', x = some (false, s') ∧ y = some w' ∧ e ≤ N ∧ TK T N s' e ∧ w' 0 12 = nI e ∧ (∃ q, q ≤ N ∧ w' 0 11 = nI q) ∧ Fc54 s s' ∧ Fr54 w w') ∨ ∃ s' w' q n', x = some (true, s') ∧ y = some w' ∧ VL T N s' w' q n' ∧ Fc54 s s' ∧ Fr54 w w'
theorem LnV.er {T : TxT} {N e : Nat} {s w s' w' : St} (he : e ≤ N) (h : TK T N s' e) (hE : Er2 N w w' e) (hF : Fc54 s s') : LnV T N s w (some (false, s')) (some w') := by
  refine Or.inl ⟨e, s', w', rfl, rfl, he, h, ?_, ?_, hF, Fr54.er hE⟩
  · obtain ⟨q, hq, rfl⟩ := hE
    exact up_at
  · obtain ⟨q, hq, rfl⟩ := hE
    exact ⟨q, hq, by rw [up_off (by decide), up_at]⟩
theorem ln_per {T : TxT} {N p n : Nat} {s w : St} (h : VL T N s w p n) (hw : wd T N (sk T N p) 0 = true) : LnV T N s w (q6_readPerson s) (q12_personLine (up w 0 11 (nI (te T N (sk T N p)))) (nI (sk T N p))) := by
  obtain ⟨h1, h2, h3, hV, hW⟩ := h
  have hN := h2.1.1
  have hb := sk_b (T := T) h2.2.1
  have ht := te_b (T := T) hb.2
  have hn := hV.1.1
  have h8 : s 54 8 = nI n := hV.1.2.1
  have hP : PM T N (up w 0 11 (nI (te T N (sk T N p)))) (te T N (sk T N p)) := h2.of ht.2.1
  have hP12 : up w 0 11 (nI (te T N (sk T N p))) 0 12 = -1 := by rw [up_off (by decide)]; exact h3
  have hP3 : up w 0 11 (nI (te T N (sk T N p))) 1 3 = nI n := by rw [up_pl (by decide)]; exact hV.1.2.2
  by_cases hn6 : n = 6
  · subst hn6
    have ec : q6_readPerson s = some (false, s) := by
      unfold q6_readPerson
      simp only [lt_nr]
      rw [h8, if_pos (show (6 : Int32) ≤ nI 6 by decide)]
    have em : q12_personLine (up w 0 11 (nI (te T N (sk T N p)))) (nI (sk T N p)) = some (up (up w 0 11 (nI (te T N (sk T N p)))) 0 12 (nI (sk T N p))) := by
      rw [pl_eq, show ∀ z : St, ag z 1 752 3 = some (z 1 3) from fun z => ag_nI (k := 3) rfl (by decide) (by decide), hP3]
      simp only [Option.bind_some]
      rw [if_pos (show nI 6 = 6 from rfl), wrong_ok hP12]
      simp only [Option.bind_some]
      have no : ¬ up (up w 0 11 (nI (te T N (sk T N p)))) 0 12 (nI (sk T N p)) 0 12 = -1 := by rw [up_at]; exact nI_m1 (by omega)
      rw [after_no no]
      simp only [Option.bind_some]
      rw [pl2_no no]
      simp only [Option.bind_some]
      rw [pl3_no no]
      simp only [Option.bind_some]
      rw [pl4_no no]
      simp only [Option.bind_some]
      rw [if_pos no]
    rw [ec, em]
    exact LnV.er hb.2 h1 ⟨_, ht.2.1, rfl⟩ Fc54.rf
  · have hn6 : n < 6 := by omega
    have h57 : s 57 n = 0 := (hV.2.2.2.2.2.2.1.1 n (Nat.le_refl _) hn6).1
    obtain ⟨x, ex, hx⟩ := per_C hn6 h1 h8 h57
    have hm := per_M (b := nI (sk T N p)) hn6 hP hP12 hP3
    rw [ex]
    cases hr : perP T N (te T N (sk T N p)) with
    | inl e =>
      rw [hr] at hx hm
      obtain ⟨x1, x2, x3⟩ := hx
      obtain ⟨m1, y, m2, m3⟩ := hm
      rw [m2]
      obtain ⟨b, s'⟩ := x
      have x1 : b = false := x1
      subst x1
      exact LnV.er m1 x2 m3.of x3
    | inr v =>
      obtain ⟨hu, py, sn, st, p1⟩ := v
      rw [hr] at hx hm
      obtain ⟨x1, x2, x3, x4, x5, x6, x7⟩ := hx
      obtain ⟨q, y, m1, m2, m3, m4, m5⟩ := hm
      rw [m3]
      obtain ⟨b, s'⟩ := x
      have x1 : b = true := x1
      subst x1
      rw [up_pl (by decide)] at m4
      obtain ⟨v1, v2⟩ := new_V hn6 hV hW x4 m4 x5 x6 x7
      have m5 : ∀ i, i ≠ 1 → y i = up w 0 11 (nI q) i := fun i hi => by rw [m5 i hi, up_up]
      have f : Fr54 w y := ⟨fun i a b => by rw [m5 i b, up_pl a], fun k hk => m4.2.2.2.2.2.2.2.2.2 k (by omega) (by omega) (fun o ho => by omega), fun k a b => by rw [m5 0 (by decide), up_off a]⟩
      refine Or.inr ⟨s', y, q, n + 1, rfl, rfl, ⟨?_, ⟨f.lt h2.1, m1, ?_⟩, ?_, v1, v2⟩, x4.fc, f⟩
      · rw [m2]; exact x3
      · rw [m5 0 (by decide), up_at]
      · rw [m5 0 (by decide), up_off (by decide)]; exact h3

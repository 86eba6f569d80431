/-! LAYER 2: THE LAW'S LINES, READ BY THE REFERENCE -/
abbrev LnR : Type := Nat ⊕ ((List Nat × Nat) × Nat)
def ifP (T : TxT) (N L p : Nat) : LnR := if wd T N (sk T N p) 22 = true then (match smP T N (atP T N 6) (te T N (sk T N p)) with
  | .inl e => .inl e
  | .inr (c, p1) => .inr ((c, L), p1)) else .inr (([1], L), sk T N p)
def lineP (T : TxT) (N p : Nat) : LnR := if wd T N (sk T N p) 19 = true then (match nm T N (sk T N (te T N (sk T N p))) 20 with
  | none => .inl (sk T N (te T N (sk T N p)))
  | some v => ifP T N (2000 + v) (te T N (sk T N (te T N (sk T N p))))) else if wd T N (sk T N p) 20 = true then (match nm T N (sk T N (te T N (sk T N p))) 20 with
  | none => .inl (sk T N (te T N (sk T N p)))
  | some v => ifP T N (3000 + v) (te T N (sk T N (te T N (sk T N p))))) else if wd T N (sk T N p) 21 = true then ifP T N 4000 (te T N (sk T N p)) else .inl (sk T N p)
def lnsP (T : TxT) (N : Nat) : Nat → Nat → Nat ⊕ List (List Nat × Nat)
  | 0, p => .inl (sk T N p)
  | k + 1, p => match lineP T N p with
    | .inl e => .inl e
    | .inr (l, p1) => if sk T N p1 = N then .inr [l] else if sg T N (sk T N p1) 59 = true then (match lnsP T N k (sk T N p1 + 1) with
      | .inl e => .inl e
      | .inr ls => .inr (l :: ls)) else .inl (sk T N p1)
def lawP (T : TxT) (N : Nat) : Nat ⊕ List (List Nat × Nat) := if sk T N 0 = N then .inr [] else lnsP T N 12 0
/-- a line, and what it is worth -/
def holdL (L : Nat) (s : Int32 × Bool) : Int32 × Bool := if 4000 ≤ L then (s.1, true) else if 3000 ≤ L then (s.1 - nI (L - 3000), s.2) else (s.1 + nI (L - 2000), s.2)
def evL (F : Nat → Int32) (s : Int32 × Bool) (l : List Nat × Nat) : Int32 × Bool := if rn F l.1 [] = some [1] then holdL l.2 s else s
def evLs (F : Nat → Int32) (s : Int32 × Bool) (ls : List (List Nat × Nat)) : Int32 × Bool := ls.foldl (evL F) s
def GdN (N p : Nat) (r : LnR) : Prop := match r with
  | .inl e => e ≤ N
  | .inr (l, p1) => l.1.length + 1 + p ≤ p1 ∧ p1 ≤ N ∧ (2000 ≤ l.2 ∧ l.2 ≤ 4000)
theorem gd_if {T : TxT} {N L p q : Nat} (hL : 2000 ≤ L ∧ L ≤ 4000) (hq : q + 2 ≤ p) (hp : p ≤ N) : GdN N q (ifP T N L p) := by
  have hb := sk_b (T := T) hp
  unfold ifP
  split
  · next h =>
    have hl := wd_b h (by decide) hb.2
    have := gd_sm (T := T) (gd_at (T := T) (N := N) 6) (te T N (sk T N p)) hl.2.1
    cases hr : smP T N (atP T N 6) (te T N (sk T N p)) with
    | inl e => rw [hr] at this; exact this
    | inr v =>
      obtain ⟨c, p1⟩ := v
      rw [hr] at this
      have h1 : c.length + te T N (sk T N p) ≤ p1 := this.1
      exact ⟨by show c.length + 1 + q ≤ p1; omega, this.2.1, hL⟩
  · exact ⟨by show 1 + 1 + q ≤ _; omega, hb.2, hL⟩
theorem gd_line {T : TxT} {N p : Nat} (hp : p ≤ N) : GdN N p (lineP T N p) := by
  have hb := sk_b (T := T) hp
  have hw : ∀ w, wd T N (sk T N p) w = true → w < 46 → te T N (sk T N p) = sk T N p + wl w := fun w h hw => by
    have h1 := wd_b h hw hb.2
    unfold wd at h
    rw [Bool.and_eq_true, Bool.and_eq_true, decide_eq_true_eq, decide_eq_true_eq] at h
    omega
  have hnum : ∀ w K v, wd T N (sk T N p) w = true → w < 46 → nm T N (sk T N (te T N (sk T N p))) 20 = some v → K = 2000 ∨ K = 3000 → GdN N p (ifP T N (K + v) (te T N (sk T N (te T N (sk T N p))))) := fun w K v h1 h2 h3 hK => by
    have hl := wd_b h1 h2 hb.2
    have hb2 := sk_b (T := T) hl.2.1
    have hv := nm_b h3
    have hlt : sk T N (te T N (sk T N p)) < N := by
      unfold nm at h3
      split at h3
      · next q =>
        have := q.1
        unfold kd at this
        split at this
        · assumption
        · omega
      · cases h3
    have ht := te_b (T := T) hb2.2
    have := ht.2.2 hlt
    exact gd_if (by omega) (by omega) ht.2.1
  unfold lineP
  split
  · next h =>
    have hl := wd_b h (by decide) hb.2
    cases hn : nm T N (sk T N (te T N (sk T N p))) 20 with
    | none => exact (sk_b hl.2.1).2
    | some v => exact hnum 19 2000 v h (by decide) hn (Or.inl rfl)
  · split
    · next h =>
      have hl := wd_b h (by decide) hb.2
      cases hn : nm T N (sk T N (te T N (sk T N p))) 20 with
      | none => exact (sk_b hl.2.1).2
      | some v => exact hnum 20 3000 v h (by decide) hn (Or.inr rfl)
    · split
      · next h =>
        have hl := wd_b h (by decide) hb.2
        have := hw 21 h (by decide)
        have h21 : wl 21 = 7 := by decide
        exact gd_if (by omega) (by omega) hl.2.1
      · exact hb.2
/-- one line by the reference -/
def LiR (F : Nat → Int32) (σ : St) (a : Bool) (r : LnR) (res : Option St) : Prop := match r with
  | .inl e => ∃ σ', res = some σ' ∧ ErS 406 σ σ' e
  | .inr (l, p1) => ∃ σ', res = some σ' ∧ σ' 0 11 = nI p1 ∧ (∀ i, i ≠ 0 → σ' i = σ i) ∧ (∀ k, k ≠ 11 → k ≠ 17 → k ≠ 18 → σ' 0 k = σ 0 k) ∧ σ' 0 17 = (evL F (σ 0 17, a) l).1 ∧ σ' 0 18 = b2i (evL F (σ 0 17, a) l).2
theorem if12 {T : TxT} {N p : Nat} {σ : St} {F : Nat → Int32} {a : Bool} {K : Int32} {v L : Nat} (h : PM T N σ p) (h12 : σ 0 12 = -1) (hF : FcS F σ) (h13 : σ 0 13 = 0) (h18 : σ 0 18 = b2i a) (hK : (K = 0 ∧ L = 2000 + v) ∨ (K = 1 ∧ L = 3000 + v) ∨ (K = 2 ∧ v = 0 ∧ L = 4000)) (hv : v ≤ 20) : LiR F σ a (ifP T N L p) (Option.bind (Option.bind (Option.bind (q12_has σ 22) fun x54_ =>
  if x54_.1 = true then (Option.bind (q12_some (q12_atom 20) x54_.2) fun x57_ =>
  if x57_.1 = true then (some (true, x57_.2)) else (some (false, x57_.2))) else (some (true, x54_.2))) fun t52_ =>
  if t52_.1 = true then (some (true, t52_.2)) else (some (false, t52_.2))) fun x47_ =>
  if (¬ (x47_.2 0 12) = (-1)) ∨ (¬ (x47_.1 = true)) then (some x47_.2) else
  some (up (up x47_.2 0 18 (b2i (decide ((¬ (x47_.2 0 18) = 0) ∨ (K = 2))))) 0 17 ((up x47_.2 0 18 (b2i (decide ((¬ (x47_.2 0 18) = 0) ∨ (K = 2)))) 0 17) + (if K = 0 then nI v else -nI v)))) := by
  have hb := sk_b (T := T) h.2.1
  have hN := h.1.1
  have hgo : ∀ (q : Nat) (c : List Nat) (x : Bool), (rn F c [] = some [b2i x]) → LiR F σ a (.inr ((c, L), q)) (if (¬ (up σ 0 11 (nI q) 0 12) = (-1)) ∨ (¬ (x = true)) then (some (up σ 0 11 (nI q))) else some (up (up (up σ 0 11 (nI q)) 0 18 (b2i (decide ((¬ (up σ 0 11 (nI q) 0 18) = 0) ∨ (K = 2))))) 0 17 ((up (up σ 0 11 (nI q)) 0 18 (b2i (decide ((¬ (up σ 0 11 (nI q) 0 18) = 0) ∨ (K = 2)))) 0 17) + (if K = 0 then nI v else -nI v)))) := fun q c x hx => by
    have e12 : up σ 0 11 (nI q) 0 12 = -1 := by rw [up_off (by decide)]; exact h12
    cases x with
    | false =>
      rw [if_pos (Or.inr (by decide))]
      have hev : evL F (σ 0 17, a) (c, L) = (σ 0 17, a) := by
        unfold evL
        rw [hx, if_neg (by decide)]
      refine ⟨_, rfl, up_at, fun i hi => up_pl hi, fun k h1 _ _ => up_off h1, ?_, ?_⟩
      · rw [hev, up_off (by decide)]
      · rw [hev, up_off (by decide)]; exact h18
    | true =>
      rw [if_neg (fun q => q.elim (fun q => q e12) (fun q => q rfl))]
      have hev : evL F (σ 0 17, a) (c, L) = holdL L (σ 0 17, a) := by
        unfold evL
        rw [hx, if_pos (show some [b2i true] = some [(1 : Int32)] from rfl)]
      refine ⟨_, rfl, by rw [up_off (by decide), up_off (by decide), up_at], fun i hi => by rw [up_pl hi, up_pl hi, up_pl hi], fun k h1 h2 h3 => by rw [up_off h2, up_off h3, up_off h1], ?_, ?_⟩
      · rw [hev, up_at, up_off (by decide), up_off (by decide)]
        unfold holdL
        rcases hK with ⟨rfl, rfl⟩ | ⟨rfl, rfl⟩ | ⟨rfl, rfl, rfl⟩
        · rw [if_pos rfl, if_neg (by omega), if_neg (by omega), show 2000 + v - 2000 = v from by omega]
        · rw [if_neg (by decide), if_neg (by omega), if_pos (by omega), show 3000 + v - 3000 = v from by omega, Int32.sub_eq_add_neg]
        · rw [if_neg (by decide), if_pos (by omega)]
          show σ 0 17 + -nI 0 = σ 0 17
          rw [show -nI 0 = (0 : Int32) from by decide, Int32.add_zero]
      · rw [hev, up_off (by decide), up_at, up_off (by decide), h18]
        unfold holdL
        rcases hK with ⟨rfl, rfl⟩ | ⟨rfl, rfl⟩ | ⟨rfl, rfl, rfl⟩
        · rw [if_neg (by omega), if_neg (by omega)]
          cases a <;> rfl
        · rw [if_neg (by omega), if_pos (by omega)]
          cases a <;> rfl
        · rw [if_pos (by omega)]
          cases a <;> rfl
  rw [has12 h (by decide)]
  simp only [Option.bind_some]
  unfold ifP
  cases hw : wd T N (sk T N p) 22 with
  | false =>
    simp only [Bool.false_eq_true, if_false, Option.bind_some, if_true]
    have := hgo (sk T N p) [1] true (by
      rw [rn_1]
      unfold s1
      rw [if_pos (by omega), if_pos (by decide), if_pos (by omega)]
      rfl)
    simp only [not_true_eq_false, or_false] at this
    simp only [not_true_eq_false, or_false]
    exact this
  | true =>
    have hl := wd_b hw (by decide) hb.2
    simp only [if_true]
    have hP2 := h.of (q := te T N (sk T N p)) hl.2.1
    have hA := at12 (T := T) (N := N) (F := F) 6 13 (by omega)
    have hs := sm12 (gd_at 6) hA _ _ hP2 (by rw [up_off (by decide)]; exact h12) (fc_11 hF) (by rw [up_off (by decide), h13]; rfl)
    have hgd := gd_sm (T := T) (gd_at (T := T) (N := N) 6) (te T N (sk T N p)) hl.2.1
    cases hr : smP T N (atP T N 6) (te T N (sk T N p)) with
    | inl e =>
      rw [hr] at hs hgd
      have he : e ≤ N := hgd
      obtain ⟨x, σ', e1, e2⟩ := hs
      have e1 : q12_some (q12_atom 20) (up σ 0 11 (nI (te T N (sk T N p)))) = some (x, σ') := e1
      rw [e1]
      refine ⟨σ', ?_, er_tr e2⟩
      have hno := e2.no (show e < 1000 by omega)
      cases x with
      | true =>
        simp only [Option.bind_some, if_true]
        rw [if_pos (Or.inl hno)]
      | false =>
        simp only [Option.bind_some, Bool.false_eq_true, if_false]
        rw [if_pos (Or.inl hno)]
    | inr y =>
      obtain ⟨c, p1⟩ := y
      rw [hr] at hs
      obtain ⟨x, e1, e2⟩ := hs
      have e1 : q12_some (q12_atom 20) (up σ 0 11 (nI (te T N (sk T N p)))) = some (x, up (up σ 0 11 (nI (te T N (sk T N p)))) 0 11 (nI p1)) := e1
      rw [e1, up_up]
      have hx := hgo p1 c x (e2 [] (by decide))
      cases x with
      | true =>
        simp only [Option.bind_some, if_true]
        simp only [not_true_eq_false, or_false] at hx ⊢
        exact hx
      | false =>
        simp only [Option.bind_some, Bool.false_eq_true, if_false]
        simp only [Bool.false_eq_true, not_false_eq_true, or_true, if_true] at hx ⊢
        exact hx
theorem line12 {T : TxT} {N p : Nat} {σ : St} {F : Nat → Int32} {a : Bool} (h : PM T N σ p) (h12 : σ 0 12 = -1) (hF : FcS F σ) (h13 : σ 0 13 = 0) (h18 : σ 0 18 = b2i a) : LiR F σ a (lineP T N p) (q12_lawLine σ) := by
  have hb := sk_b (T := T) h.2.1
  have hsk : sk T N (sk T N p) = sk T N p := sk_sk h.2.1
  have hN := h.1.1
  have hP := h.of hb.2
  have hs : ∀ w, w < 46 → q12_has (up σ 0 11 (nI (sk T N p))) w = some (wd T N (sk T N p) w, up σ 0 11 (nI (if wd T N (sk T N p) w = true then te T N (sk T N p) else sk T N p))) := fun w hw => by
    have := has12 (w := w) hP hw
    rw [hsk, up_up] at this
    exact this
  have liup : ∀ (q : Nat) (r : LnR) (res : Option St), LiR F (up σ 0 11 (nI q)) a r res → LiR F σ a r res := fun q r res hh => by
    rcases r with e | ⟨l, p1⟩
    · obtain ⟨σ', e1, e2⟩ := hh
      exact ⟨σ', e1, er_tr e2⟩
    · obtain ⟨σ', e1, e2, e3, e4, e5, e6⟩ := hh
      rw [up_off (by decide)] at e5 e6
      exact ⟨σ', e1, e2, fun i hi => by rw [e3 i hi, up_pl hi], fun k h1 h2 h3 => by rw [e4 k h1 h2 h3, up_off h1], e5, e6⟩
  unfold q12_lawLine
  dsimp only [lt]
  rw [has12 h (by decide)]
  simp only [Option.bind_some]
  have hnum : ∀ (w K2 : Nat) (K : Int32), wd T N (sk T N p) w = true → w < 46 → (K = 0 ∧ K2 = 2000) ∨ (K = 1 ∧ K2 = 3000) → LiR F σ a (match nm T N (sk T N (te T N (sk T N p))) 20 with | none => .inl (sk T N (te T N (sk T N p))) | some v => ifP T N (K2 + v) (te T N (sk T N (te T N (sk T N p))))) (Option.bind (Option.bind (q12_figures (up σ 0 11 (nI (te T N (sk T N p)))) 0 20) fun x40_ => some (x40_.1, x40_.2)) fun x34_ =>
  if ¬ (x34_.2 0 12) = (-1) then (some x34_.2) else
  Option.bind (Option.bind (Option.bind (q12_has x34_.2 22) fun x54_ =>
  if x54_.1 = true then (Option.bind (q12_some (q12_atom 20) x54_.2) fun x57_ =>
  if x57_.1 = true then (some (true, x57_.2)) else (some (false, x57_.2))) else (some (true, x54_.2))) fun t52_ =>
  if t52_.1 = true then (some (true, t52_.2)) else (some (false, t52_.2))) fun x47_ =>
  if (¬ (x47_.2 0 12) = (-1)) ∨ (¬ (x47_.1 = true)) then (some x47_.2) else
  some (up (up x47_.2 0 18 (b2i (decide ((¬ (x47_.2 0 18) = 0) ∨ (K = 2))))) 0 17 ((up x47_.2 0 18 (b2i (decide ((¬ (x47_.2 0 18) = 0) ∨ (K = 2)))) 0 17) + (if K = 0 then x34_.1 else -x34_.1)))) := fun w K2 K hw hw2 hK => by
    have hl := wd_b hw hw2 hb.2
    have hP2 := h.of (q := te T N (sk T N p)) hl.2.1
    have hb2 := sk_b (T := T) hl.2.1
    have h12' : up σ 0 11 (nI (te T N (sk T N p))) 0 12 = -1 := by rw [up_off (by decide)]; exact h12
    rcases fig12 (H := 20) hP2 h12' with ⟨v, hv, ev⟩ | ⟨hv, x, e, he, ev⟩
    · rw [hv, ev]
      simp only [Option.bind_some]
      rw [up_up, if_neg (show ¬ ¬ up σ 0 11 (nI (te T N (sk T N (te T N (sk T N p))))) 0 12 = -1 by rw [up_off (by decide)]; exact not_not_intro h12)]
      have hvb := nm_b hv
      have hv20 : v ≤ 20 := by
        have := hvb.2
        rw [show (20 : Int32) = nI 20 from rfl, ← Int32.not_lt, nI_ltI (by omega) (by omega)] at this
        omega
      have ht := te_b (T := T) hb2.2
      exact liup _ _ _ (if12 (h.of ht.2.1) (by rw [up_off (by decide)]; exact h12) (fc_11 hF) (by rw [up_off (by decide)]; exact h13) (by rw [up_off (by decide)]; exact h18) (hK.elim (fun q => Or.inl ⟨q.1, by rw [q.2]⟩) (fun q => Or.inr (Or.inl ⟨q.1, by rw [q.2]⟩))) hv20)
    · rw [hv, ev]
      simp only [Option.bind_some]
      have hno : ¬ up (up (up σ 0 11 (nI (te T N (sk T N p)))) 0 11 (nI e)) 0 12 (nI (sk T N (te T N (sk T N p)))) 0 12 = -1 := by rw [up_at]; exact nI_m1 (by omega)
      rw [if_pos hno]
      refine ⟨_, rfl, ?_⟩
      rw [up_up]
      exact (er_up (by omega)).mo (by omega)
  unfold lineP
  by_cases c1 : wd T N (sk T N p) 19 = true
  · rw [c1]
    simp only [if_true, Option.bind_some]
    rw [if_neg (show ¬ (0 : Int32) = -1 by decide), if_neg (show ¬ (0 : Int32) = 2 by decide)]
    exact hnum 19 2000 0 c1 (by decide) (Or.inl ⟨rfl, rfl⟩)
  rw [Bool.not_eq_true _ |>.mp c1]
  simp only [Bool.false_eq_true, if_false]
  rw [hs 20 (by decide)]
  simp only [Option.bind_some]
  by_cases c2 : wd T N (sk T N p) 20 = true
  · rw [c2]
    simp only [if_true, Option.bind_some]
    rw [if_neg (show ¬ (1 : Int32) = -1 by decide), if_neg (show ¬ (1 : Int32) = 2 by decide)]
    exact hnum 20 3000 1 c2 (by decide) (Or.inr ⟨rfl, rfl⟩)
  rw [Bool.not_eq_true _ |>.mp c2]
  simp only [Bool.false_eq_true, if_false]
  rw [hs 21 (by decide)]
  simp only [Option.bind_some]
  by_cases c3 : wd T N (sk T N p) 21 = true
  · have hl := wd_b c3 (by decide) hb.2
    rw [c3]
    simp only [if_true, Option.bind_some]
    rw [if_neg (show ¬ (2 : Int32) = -1 by decide), if_neg (show ¬ ¬ up σ 0 11 (nI (te T N (sk T N p))) 0 12 = -1 by rw [up_off (by decide)]; exact not_not_intro h12)]
    have := liup _ _ _ (if12 (K := 2) (v := 0) (L := 4000) (h.of hl.2.1) (by rw [up_off (by decide)]; exact h12) (fc_11 hF) (by rw [up_off (by decide)]; exact h13) (by rw [up_off (by decide)]; exact h18) (Or.inr (Or.inr ⟨rfl, rfl, rfl⟩)) (by omega))
    simp only [or_true] at this
    simp only [or_true]
    exact this
  rw [Bool.not_eq_true _ |>.mp c3]
  simp only [Bool.false_eq_true, if_false, Option.bind_some, if_true]
  rw [wrong_ok (show up σ 0 11 (nI (sk T N p)) 0 12 = -1 by rw [up_off (by decide)]; exact h12), up_at]
  exact ⟨_, rfl, (er_up (by omega)).mo (by omega)⟩

/-! LAYER 2: THE LAW, READ BY THE REFERENCE -/
def rdB (law_a : Bool) (rec13_ : Bool → Int32 → St → Option (Bool × Int32 × St)) (go16_ : Bool) (n17_ : Int32) (σ18_ : St) : Option (Bool × Int32 × St) :=
  if (go16_ = true) ∧ ((σ18_ 0 12) = (-1)) then
  Option.bind (q12_skip σ18_) fun x26_ =>
  Option.bind (if n17_ = (if law_a = true then 12 else 14) then (Option.bind (q12_wrong x26_ (x26_ 0 11)) fun x40_ =>
  some (x40_)) else (Option.bind (if law_a = true then (Option.bind (q12_lawLine x26_) fun x49_ =>
  some (x49_)) else (Option.bind (q12_villageLine x26_) fun x51_ =>
  some (x51_))) fun y42_ =>
  some (y42_))) fun y28_ =>
  Option.bind (q12_skip y28_) fun x55_ =>
  Option.bind (if (¬ (x55_ 0 12) = (-1)) ∨ ((x55_ 0 11) = (x55_ 0 10)) then (some (false, x55_)) else (Option.bind (Option.bind (q12_isSign x55_ 59) fun x70_ =>
  if x70_.1 = true then (some (up x70_.2 0 11 ((x70_.2 0 11) + 1))) else (Option.bind (q12_wrong x70_.2 (x70_.2 0 11)) fun x76_ =>
  some (x76_))) fun y65_ =>
  some (go16_, y65_))) fun y57_ =>
  rec13_ y57_.1 (n17_ + 1) y57_.2
  else (some (go16_, n17_, σ18_))
theorem read_eq {σ : St} {law : Bool} : q12_read σ law = Option.bind (q12_skip σ) (fun x1_ => Option.bind (loop3 (rdB law) fuelN (decide ((x1_ 0 11) < (x1_ 0 10))) 0 x1_) fun y10_ => some (y10_.2.1, y10_.2.2)) := rfl
theorem rdB_ex {law go : Bool} {rec : Bool → Int32 → St → Option (Bool × Int32 × St)} {n : Int32} {σ : St} (h : go = false ∨ ¬ σ 0 12 = -1) : rdB law rec go n σ = some (go, n, σ) := by
  unfold rdB
  rw [if_neg (fun q => h.elim (fun e => by rw [e] at q; cases q.1) (fun e => e q.2))]
/-- what comes behind a line -/
theorem rdB_af {T : TxT} {N p : Nat} {law : Bool} {rec : Bool → Int32 → St → Option (Bool × Int32 × St)} {n : Int32} {y : St} (h : PM T N y p) (h12 : y 0 12 = -1) : (Option.bind (q12_skip y) fun x55_ =>
  Option.bind (if (¬ (x55_ 0 12) = (-1)) ∨ ((x55_ 0 11) = (x55_ 0 10)) then (some (false, x55_)) else (Option.bind (Option.bind (q12_isSign x55_ 59) fun x70_ =>
  if x70_.1 = true then (some (up x70_.2 0 11 ((x70_.2 0 11) + 1))) else (Option.bind (q12_wrong x70_.2 (x70_.2 0 11)) fun x76_ =>
  some (x76_))) fun y65_ =>
  some (law, y65_))) fun y57_ =>
  rec y57_.1 (n + 1) y57_.2) = if sk T N p = N then rec false (n + 1) (up y 0 11 (nI N)) else if sg T N (sk T N p) 59 = true then rec law (n + 1) (up y 0 11 (nI (sk T N p + 1))) else rec law (n + 1) (up (up y 0 11 (nI (sk T N p))) 0 12 (nI (sk T N p))) := by
  have hb := sk_b (T := T) h.2.1
  have hsk : sk T N (sk T N p) = sk T N p := sk_sk h.2.1
  have hN := h.1.1
  have hP := h.of hb.2
  rw [skip_ok h]
  simp only [Option.bind_some]
  rw [up_at, hP.1.2.2]
  have h12' : up y 0 11 (nI (sk T N p)) 0 12 = -1 := by rw [up_off (by decide)]; exact h12
  have e1 : nI (sk T N p) = nI N ↔ sk T N p = N := nI_eq (by omega) (by omega)
  by_cases hc : sk T N p = N
  · rw [if_pos (Or.inr (e1.mpr hc)), if_pos hc, hc]
    rfl
  · rw [if_neg (fun q => q.elim (fun q => q h12') (fun q => hc (e1.mp q))), if_neg hc]
    have hs := sign12 (c := 59) hP
    rw [hsk, up_up] at hs
    rw [hs]
    simp only [Option.bind_some]
    cases hg : sg T N (sk T N p) 59 with
    | true =>
      simp only [if_true, Option.bind_some]
      rw [up_at, up_up, nI_1]
    | false =>
      simp only [Bool.false_eq_true, if_false]
      rw [wrong_ok h12', up_at]
      rfl
theorem skipE {T : TxT} {N q : Nat} {y : St} (h : LT T N y) (hq : y 0 11 = nI q) (hb : q ≤ 2000) : ∃ z, q12_skip y = some (up y 0 11 z) := by
  by_cases hc : q ≤ N
  · exact ⟨_, skip_ok ⟨h, hc, hq⟩⟩
  · have hN := h.1
    have key : Wo (q12_skip y) (fun r => r = y) := by
      unfold q12_skip
      dsimp only [lt]
      refine wo_bind ?_
      refine lpW1 0 (fun _ w => w = y) ?_ fuelN 0 _ (Nat.zero_le _) (fuel_ok (by omega)) rfl
      rintro rec t w _ rfl _
      rw [hq, h.2.2, if_neg (fun q => by have := (nI_ltI (by omega) (by omega)).mp q; omega)]
      exact wo_some (wo_some rfl)
    obtain ⟨r, e, rfl⟩ := key
    exact ⟨r 0 11, by rw [up_same]; exact e⟩
theorem rdB_er {T : TxT} {N e : Nat} {law : Bool} {rec : Bool → Int32 → St → Option (Bool × Int32 × St)} {n : Int32} {σ y : St} (hL : LT T N y) (hq : ∃ q, q ≤ 2000 ∧ y 0 11 = nI q) (h12 : ¬ y 0 12 = -1) : ∃ z, (Option.bind (q12_skip y) fun x55_ =>
  Option.bind (if (¬ (x55_ 0 12) = (-1)) ∨ ((x55_ 0 11) = (x55_ 0 10)) then (some (false, x55_)) else (Option.bind (Option.bind (q12_isSign x55_ 59) fun x70_ =>
  if x70_.1 = true then (some (up x70_.2 0 11 ((x70_.2 0 11) + 1))) else (Option.bind (q12_wrong x70_.2 (x70_.2 0 11)) fun x76_ =>
  some (x76_))) fun y65_ =>
  some (law, y65_))) fun y57_ =>
  rec y57_.1 (n + 1) y57_.2) = rec false (n + 1) (up y 0 11 z) := by
  obtain ⟨q, hb, hq⟩ := hq
  obtain ⟨z, ez⟩ := skipE hL hq hb
  refine ⟨z, ?_⟩
  rw [ez]
  simp only [Option.bind_some]
  rw [if_pos (Or.inl (by rw [up_off (by decide)]; exact h12))]
  rfl
def ErL (σ σ' : St) (e : Nat) : Prop := σ' 0 12 = nI e ∧ (∀ i, i ≠ 0 → σ' i = σ i) ∧ (∀ k, k ≠ 11 → k ≠ 12 → k ≠ 13 → k ≠ 17 → k ≠ 18 → σ' 0 k = σ 0 k) ∧ ∃ q, σ' 0 18 = b2i q
def RdR (F : Nat → Int32) (σ : St) (a : Bool) (n : Nat) (r : Nat ⊕ List (List Nat × Nat)) (res : Option (Bool × Int32 × St)) : Prop := match r with
  | .inl e => ∃ g n' σ', res = some (g, n', σ') ∧ ErL σ σ' e
  | .inr ls => ∃ g σ', res = some (g, nI (n + ls.length), σ') ∧ (∀ i, i ≠ 0 → σ' i = σ i) ∧ (∀ k, k ≠ 11 → k ≠ 17 → k ≠ 18 → σ' 0 k = σ 0 k) ∧ σ' 0 17 = (evLs F (σ 0 17, a) ls).1 ∧ σ' 0 18 = b2i (evLs F (σ 0 17, a) ls).2
theorem LT.fr {T : TxT} {N : Nat} {σ σ' : St} (h : LT T N σ) (e1 : σ' 1 = σ 1) (e5 : σ' 5 = σ 5) (e9 : σ' 0 9 = σ 0 9) (e10 : σ' 0 10 = σ 0 10) : LT T N σ' := by
  unfold LT at h ⊢
  rw [e1, e5, e9, e10]
  exact h
theorem rd12 {T : TxT} {N : Nat} {F : Nat → Int32} : ∀ (k n M : Nat) (σ : St) (p : Nat) (a : Bool), k + n = 12 → k + 2 ≤ M → PM T N σ p → σ 0 12 = -1 → FcS F σ → σ 0 13 = 0 → σ 0 18 = b2i a → RdR F σ a n (lnsP T N k p) (loop3 (rdB true) M true (nI n) σ)
  | k, n, 0, σ, p, a, hkn, hM, h, h12, hF, h13, h18 => absurd hM (by omega)
  | k, n, 1, σ, p, a, hkn, hM, h, h12, hF, h13, h18 => absurd hM (by omega)
  | k, n, M + 2, σ, p, a, hkn, hM, h, h12, hF, h13, h18 => by
    have hb := sk_b (T := T) h.2.1
    have hsk : sk T N (sk T N p) = sk T N p := sk_sk h.2.1
    have hN := h.1.1
    have hP := h.of hb.2
    show RdR F σ a n _ (rdB true (loop3 (rdB true) (M + 1)) true (nI n) σ)
    have hex : ∀ (g : Bool) (n' : Int32) (y : St), (g = false ∨ ¬ y 0 12 = -1) → loop3 (rdB true) (M + 1) g n' y = some (g, n', y) := fun g n' y hy => by
      show rdB true (loop3 (rdB true) M) g n' y = _
      exact rdB_ex hy
    have hih : ∀ (k' n' : Nat) (σ' : St) (p' : Nat) (a' : Bool), k' + 1 = k → k' + n' = 12 → PM T N σ' p' → σ' 0 12 = -1 → FcS F σ' → σ' 0 13 = 0 → σ' 0 18 = b2i a' → RdR F σ' a' n' (lnsP T N k' p') (loop3 (rdB true) (M + 1) true (nI n') σ') := fun k' n' σ' p' a' hk => fun h1 h2 h3 h4 h5 h6 => rd12 k' n' (M + 1) σ' p' a' h1 (by omega) h2 h3 h4 h5 h6
    generalize loop3 (rdB true) (M + 1) = rec at hex hih
    unfold rdB
    rw [if_pos ⟨rfl, h12⟩, skip_ok h]
    simp only [Option.bind_some, if_true]
    have e12n : nI n = 12 ↔ k = 0 := by
      rw [show (12 : Int32) = nI 12 from rfl, nI_eq (by omega) (by omega)]
      omega
    have h12b : up σ 0 11 (nI (sk T N p)) 0 12 = -1 := by rw [up_off (by decide)]; exact h12
    cases k with
    | zero =>
      rw [if_pos (e12n.mpr rfl), wrong_ok h12b, up_at]
      simp only [Option.bind_some]
      have hPe : PM T N (up (up σ 0 11 (nI (sk T N p))) 0 12 (nI (sk T N p))) (sk T N p) := hP.u0 (by decide) (by decide) (by decide)
      obtain ⟨z, ez⟩ := rdB_er (T := T) (N := N) (e := 0) (σ := σ) (law := true) (rec := rec) (n := nI n) hPe.1 ⟨_, by omega, hPe.2.2⟩ (by rw [up_at]; exact nI_m1 (by omega))
      rw [ez, hex _ _ _ (Or.inl rfl)]
      unfold lnsP
      exact ⟨_, _, _, rfl, by rw [up_off (by decide), up_at], fun i hi => by rw [up_pl hi, up_pl hi, up_pl hi], fun q q1 q2 q3 _ _ => by rw [up_off q1, up_off q2, up_off q1], a, by rw [up_off (by decide), up_off (by decide), up_off (by decide)]; exact h18⟩
    | succ k =>
      rw [if_neg (fun q => by have := e12n.mp q; omega)]
      have hli := line12 hP h12b (fc_11 hF) (by rw [up_off (by decide)]; exact h13) (a := a) (by rw [up_off (by decide)]; exact h18)
      have hlp : lineP T N (sk T N p) = lineP T N p := by
        unfold lineP
        rw [hsk]
      rw [hlp] at hli
      have hgd := gd_line (T := T) (N := N) (p := p) h.2.1
      unfold lnsP
      cases hr : lineP T N p with
      | inl e =>
        rw [hr] at hli hgd
        have he : e ≤ N := hgd
        obtain ⟨σ', e1, e2⟩ := hli
        rw [e1]
        simp only [Option.bind_some]
        have e3 := er_tr e2
        have hL' : LT T N σ' := h.1.fr (e3.2.1 1 (by decide)) (e3.2.1 5 (by decide)) (e3.2.2.1 9 (by decide) (by decide) (by decide)) (e3.2.2.1 10 (by decide) (by decide) (by decide))
        obtain ⟨q, q1, q2⟩ := e3.2.2.2
        obtain ⟨z, ez⟩ := rdB_er (T := T) (N := N) (e := 0) (σ := σ) (law := true) (rec := rec) (n := nI n) hL' ⟨q, by omega, q2⟩ (e3.no (by omega))
        rw [ez, hex _ _ _ (Or.inl rfl)]
        exact ⟨_, _, _, rfl, by rw [up_off (by decide)]; exact e3.1, fun i hi => by rw [up_pl hi]; exact e3.2.1 i hi, fun q q1 q2 q3 _ _ => by rw [up_off q1]; exact e3.2.2.1 q q1 q2 q3, a, by rw [up_off (by decide), e3.2.2.1 18 (by decide) (by decide) (by decide)]; exact h18⟩
      | inr v =>
        obtain ⟨l, p1⟩ := v
        rw [hr] at hli hgd
        have hp1 : p1 ≤ N := hgd.2.1
        obtain ⟨σ', e1, e2, e3, e4, e5, e6⟩ := hli
        rw [up_off (by decide)] at e5 e6
        have e3 : ∀ i, i ≠ 0 → σ' i = σ i := fun i hi => by rw [e3 i hi, up_pl hi]
        have e4 : ∀ k, k ≠ 11 → k ≠ 17 → k ≠ 18 → σ' 0 k = σ 0 k := fun k h1 h2 h3 => by rw [e4 k h1 h2 h3, up_off h1]
        have hL' : LT T N σ' := h.1.fr (e3 1 (by decide)) (e3 5 (by decide)) (e4 9 (by decide) (by decide) (by decide)) (e4 10 (by decide) (by decide) (by decide))
        have hP' : PM T N σ' p1 := ⟨hL', hp1, e2⟩
        have hb1 := sk_b (T := T) hp1
        have h12' : σ' 0 12 = -1 := by rw [e4 12 (by decide) (by decide) (by decide)]; exact h12
        rw [e1]
        simp only [Option.bind_some]
        rw [rdB_af hP' h12']
        show RdR F σ a n (if sk T N p1 = N then _ else _) _
        by_cases hc : sk T N p1 = N
        · rw [if_pos hc, if_pos hc, hex _ _ _ (Or.inl rfl), nI_1]
          refine ⟨_, _, rfl, fun i hi => by rw [up_pl hi]; exact e3 i hi, fun k h1 h2 h3 => by rw [up_off h1]; exact e4 k h1 h2 h3, by rw [up_off (by decide)]; exact e5, by rw [up_off (by decide)]; exact e6⟩
        · rw [if_neg hc, if_neg hc]
          cases hg : sg T N (sk T N p1) 59 with
          | false =>
            simp only [Bool.false_eq_true, if_false]
            rw [hex _ _ _ (Or.inr (by rw [up_at]; exact nI_m1 (by omega)))]
            exact ⟨_, _, _, rfl, up_at, fun i hi => by rw [up_pl hi, up_pl hi]; exact e3 i hi, fun q q1 q2 q3 q4 q5 => by rw [up_off q2, up_off q1]; exact e4 q q1 q4 q5, _, by rw [up_off (by decide), up_off (by decide)]; exact e6⟩
          | true =>
            simp only [if_true]
            have hl := (sg_b hg).1
            have hP2 := hP'.of (q := sk T N p1 + 1) (by omega)
            have hF' : FcS F σ' := hF.to (e3 6 (by decide)) (e4 15 (by decide) (by decide) (by decide)) (e4 16 (by decide) (by decide) (by decide))
            have ih := hih k (n + 1) _ _ (evL F (σ 0 17, a) l).2 rfl (by omega) hP2 (by rw [up_off (by decide)]; exact h12') (fc_11 hF') (by rw [up_off (by decide), e4 13 (by decide) (by decide) (by decide)]; exact h13) (by rw [up_off (by decide)]; exact e6)
            rw [nI_1]
            cases hr2 : lnsP T N k (sk T N p1 + 1) with
            | inl e =>
              rw [hr2] at ih
              obtain ⟨g, n', z, z1, z2, z3, z4, z5⟩ := ih
              exact ⟨g, n', z, z1, z2, fun i hi => by rw [z3 i hi, up_pl hi]; exact e3 i hi, fun q q1 q2 q3 q4 q5 => by rw [z4 q q1 q2 q3 q4 q5, up_off q1]; exact e4 q q1 q4 q5, z5⟩
            | inr ls =>
              rw [hr2] at ih
              obtain ⟨g, z, z1, z2, z3, z4, z5⟩ := ih
              rw [up_off (by decide), e5] at z4 z5
              refine ⟨g, z, ?_, fun i hi => by rw [z2 i hi, up_pl hi]; exact e3 i hi, fun q q1 q2 q3 => by rw [z3 q q1 q2 q3, up_off q1]; exact e4 q q1 q2 q3, z4, z5⟩
              rw [z1]
              congr 3
              show nI (n + 1 + ls.length) = nI (n + (ls.length + 1))
              congr 1
              omega
theorem law12 {T : TxT} {N : Nat} {F : Nat → Int32} {σ : St} {a : Bool} (h : PM T N σ 0) (h12 : σ 0 12 = -1) (hF : FcS F σ) (h13 : σ 0 13 = 0) (h18 : σ 0 18 = b2i a) : (∃ e x σ', lawP T N = .inl e ∧ e ≤ N ∧ q12_read σ true = some (x, σ') ∧ ErL σ σ' e) ∨ ∃ ls σ', lawP T N = .inr ls ∧ q12_read σ true = some (nI ls.length, σ') ∧ (∀ i, i ≠ 0 → σ' i = σ i) ∧ (∀ k, k ≠ 11 → k ≠ 17 → k ≠ 18 → σ' 0 k = σ 0 k) ∧ σ' 0 17 = (evLs F (σ 0 17, a) ls).1 ∧ σ' 0 18 = b2i (evLs F (σ 0 17, a) ls).2 := by
  have hb := sk_b (T := T) h.2.1
  have hsk : sk T N (sk T N 0) = sk T N 0 := sk_sk h.2.1
  have hN := h.1.1
  have hP := h.of hb.2
  rw [read_eq, skip_ok h]
  simp only [Option.bind_some]
  rw [up_at, hP.1.2.2]
  unfold lawP
  have e1 : nI (sk T N 0) < nI N ↔ sk T N 0 < N := nI_ltI (by omega) (by omega)
  by_cases hc : sk T N 0 = N
  · rw [if_pos hc, decide_eq_false (fun q => by have := e1.mp q; omega)]
    have hl : loop3 (rdB true) fuelN false 0 (up σ 0 11 (nI (sk T N 0))) = some (false, 0, up σ 0 11 (nI (sk T N 0))) := by
      have : Wo (loop3 (rdB true) fuelN false 0 (up σ 0 11 (nI (sk T N 0)))) (fun r => r = (false, 0, up σ 0 11 (nI (sk T N 0)))) := by
        refine lpW3 0 (fun _ g n w => g = false ∧ n = 0 ∧ w = up σ 0 11 (nI (sk T N 0))) ?_ fuelN 0 _ _ _ (Nat.zero_le _) (fuel_ok (by omega)) ⟨rfl, rfl, rfl⟩
        rintro rec t g n w _ ⟨rfl, rfl, rfl⟩ _
        rw [rdB_ex (Or.inl rfl)]
        exact wo_some rfl
      obtain ⟨r, er, rfl⟩ := this
      exact er
    rw [hl]
    refine Or.inr ⟨[], up σ 0 11 (nI (sk T N 0)), rfl, rfl, fun i hi => up_pl hi, fun k h1 _ _ => up_off h1, ?_, ?_⟩
    · rw [up_off (by decide)]; rfl
    · rw [up_off (by decide)]; exact h18
  · rw [if_neg hc, decide_eq_true (e1.mpr (by omega))]
    have hr := rd12 (T := T) (N := N) (F := F) 12 0 fuelN (up σ 0 11 (nI (sk T N 0))) (sk T N 0) a rfl (by unfold fuelN; omega) hP (by rw [up_off (by decide)]; exact h12) (fc_11 hF) (by rw [up_off (by decide)]; exact h13) (by rw [up_off (by decide)]; exact h18)
    have hlp : lnsP T N 12 (sk T N 0) = lnsP T N 12 0 := by
      unfold lnsP lineP
      rw [hsk]
    rw [hlp] at hr
    have hr : RdR F (up σ 0 11 (nI (sk T N 0))) a 0 (lnsP T N 12 0) (loop3 (rdB true) fuelN true 0 (up σ 0 11 (nI (sk T N 0)))) := hr
    have hgn : ∀ k p e, p ≤ N → lnsP T N k p = .inl e → e ≤ N := by
      intro k
      induction k with
      | zero =>
        intro p e hp he
        unfold lnsP at he
        cases he
        exact (sk_b hp).2
      | succ k ih =>
        intro p e hp he
        unfold lnsP at he
        have hgd := gd_line (T := T) (N := N) (p := p) hp
        cases hr : lineP T N p with
        | inl e' => rw [hr] at he hgd; cases he; exact hgd
        | inr v =>
          obtain ⟨l, p1⟩ := v
          rw [hr] at he hgd
          have hp1 : p1 ≤ N := hgd.2.1
          have hb1 := sk_b (T := T) hp1
          dsimp only at he
          split at he
          · cases he
          · split at he
            · next hg =>
              have := (sg_b hg).1
              cases hr2 : lnsP T N k (sk T N p1 + 1) with
              | inl e' => rw [hr2] at he; cases he; exact ih _ _ (by omega) hr2
              | inr ls => rw [hr2] at he; cases he
            · cases he; exact hb1.2
    cases hr2 : lnsP T N 12 0 with
    | inl e =>
      rw [hr2] at hr
      obtain ⟨g, n', z, z1, z2, z3, z4, z5⟩ := hr
      rw [z1]
      exact Or.inl ⟨e, n', z, rfl, hgn 12 0 e (by omega) hr2, rfl, z2, fun i hi => by rw [z3 i hi, up_pl hi], fun q q1 q2 q3 q4 q5 => by rw [z4 q q1 q2 q3 q4 q5, up_off q1], z5⟩
    | inr ls =>
      rw [hr2] at hr
      obtain ⟨g, z, z1, z2, z3, z4, z5⟩ := hr
      rw [z1, Nat.zero_add]
      rw [up_off (by decide)] at z4 z5
      exact Or.inr ⟨ls, z, rfl, rfl, fun i hi => by rw [z2 i hi, up_pl hi], fun q q1 q2 q3 => by rw [z3 q q1 q2 q3, up_off q1], z4, z5⟩

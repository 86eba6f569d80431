/-! LAYER 2: CONDITIONS, READ BY THE REFERENCE -/
theorem PM.of {T : TxT} {N p q : Nat} {σ : St} (h : PM T N σ p) (hq : q ≤ N) : PM T N (up σ 0 11 (nI q)) q := h.to hq
theorem fc_11 {F : Nat → Int32} {σ : St} {x : Int32} (h : FcS F σ) : FcS F (up σ 0 11 x) := h.to (up_pl (by decide)) (up_off (by decide)) (up_off (by decide))
theorem er_tr {B : Nat} {σ σ' : St} {e : Nat} {x : Int32} (h : ErS B (up σ 0 11 x) σ' e) : ErS B σ σ' e := ⟨h.1, fun i hi => by rw [h.2.1 i hi, up_pl hi], fun k h1 h2 h3 => by rw [h.2.2.1 k h1 h2 h3, up_off h1], h.2.2.2⟩
def SmR (F : Nat → Int32) (σ : St) (n : Int32) (r : PR) (res : Option (Int32 × St)) : Prop := match r with
  | .inl e => ∃ x σ', res = some (x, σ') ∧ ErS 400 σ σ' e
  | .inr (c, p1) => ∃ x, res = some (x, up σ 0 11 (nI p1)) ∧ ∀ st : List Int32, st.length + 2 ≤ 32 → rn F c (n :: st) = some (x :: st)
theorem sumL12 {T : TxT} {N p0 : Nat} {σ : St} {F : Nat → Int32} (h : PM T N σ p0) (h12 : σ 0 12 = -1) (hF : FcS F σ) : ∀ (f M p : Nat) (n : Int32), N - p < f → f ≤ M → p ≤ N → SmR F σ n (sumL T N f p) (loop2 (fun rec6_ (n9_ : Int32) (σ10_ : St) =>
  Option.bind (if (σ10_ 0 12) = (-1) then (Option.bind (q12_isSign σ10_ 43) fun x18_ =>
  if x18_.1 = true then (some (true, x18_.2)) else (some (false, x18_.2))) else (some (false, σ10_))) fun t15_ =>
  if t15_.1 = true then
  Option.bind (q12_part (up t15_.2 0 11 ((t15_.2 0 11) + 1))) fun x24_ =>
  rec6_ (n9_ + x24_.1) x24_.2
  else (some (n9_, t15_.2))) M n (up σ 0 11 (nI p)))
  | 0, M, p, n, h1, h2, hp => absurd h1 (Nat.not_lt_zero _)
  | f + 1, 0, p, n, h1, h2, hp => absurd h2 (by omega)
  | f + 1, M + 1, p, n, h1, h2, hp => by
    have hb := sk_b (T := T) hp
    have hN := h.1.1
    have hP := h.of hp
    have hex : ∀ (M' : Nat) (n' : Int32) (w : St), ¬ w 0 12 = -1 → loop2 (fun (rec6_ : Int32 → St → Option (Int32 × St)) (n9_ : Int32) (σ10_ : St) =>
  Option.bind (if (σ10_ 0 12) = (-1) then (Option.bind (q12_isSign σ10_ 43) fun x18_ =>
  if x18_.1 = true then (some (true, x18_.2)) else (some (false, x18_.2))) else (some (false, σ10_))) fun t15_ =>
  if t15_.1 = true then
  Option.bind (q12_part (up t15_.2 0 11 ((t15_.2 0 11) + 1))) fun x24_ =>
  rec6_ (n9_ + x24_.1) x24_.2
  else (some (n9_, t15_.2))) (M' + 1) n' w = some (n', w) := fun M' n' w hw => by
      show Option.bind (if (w 0 12) = (-1) then _ else _) _ = _
      rw [if_neg hw]
      rfl
    show SmR F σ n _ (Option.bind (if (up σ 0 11 (nI p) 0 12) = (-1) then (Option.bind (q12_isSign (up σ 0 11 (nI p)) 43) fun x18_ =>
  if x18_.1 = true then (some (true, x18_.2)) else (some (false, x18_.2))) else (some (false, up σ 0 11 (nI p)))) fun t15_ => _)
    rw [if_pos (show up σ 0 11 (nI p) 0 12 = -1 by rw [up_off (by decide)]; exact h12), sign12 hP]
    simp only [Option.bind_some]
    rw [up_up]
    unfold sumL
    cases hs : sg T N (sk T N p) 43 with
    | false =>
      simp only [Bool.false_eq_true, if_false, Option.bind_some]
      exact ⟨n, rfl, fun st _ => rfl⟩
    | true =>
      simp only [if_true, Option.bind_some]
      have hl := (sg_b hs).1
      rw [up_at, up_up, nI_1]
      have hP2 := h.of (q := sk T N p + 1) (by omega)
      have hpt := part12 hP2 (by rw [up_off (by decide)]; exact h12) (fc_11 hF)
      have hgd := gd_part (T := T) (N := N) (p := sk T N p + 1) (by omega)
      cases hr : partP T N (sk T N p + 1) with
      | inl e =>
        rw [hr] at hpt hgd
        obtain ⟨x, σ', e1, e2⟩ := hpt
        rw [e1]
        simp only [Option.bind_some]
        have he : e ≤ N := hgd
        obtain ⟨M', rfl⟩ : ∃ M', M = M' + 1 := ⟨M - 1, by omega⟩
        rw [hex M' _ σ' (e2.no (by omega))]
        exact ⟨_, _, rfl, er_tr e2⟩
      | inr v =>
        obtain ⟨c, p1⟩ := v
        rw [hr] at hpt hgd
        obtain ⟨x, e1, e2⟩ := hpt
        rw [e1]
        simp only [Option.bind_some]
        rw [up_up]
        have hg1 : c.length + (sk T N p + 1) ≤ p1 := hgd.1
        have hg2 : p1 ≤ N := hgd.2.1
        have ih := sumL12 h h12 hF f M p1 (n + x) (by omega) (by omega) hg2
        show SmR F σ n (bnP (sumL T N f p1) _) _
        cases hr2 : sumL T N f p1 with
        | inl e =>
          rw [hr2] at ih
          exact ih
        | inr v2 =>
          obtain ⟨c2, p2⟩ := v2
          rw [hr2] at ih
          obtain ⟨y, y1, y2⟩ := ih
          refine ⟨y, y1, fun st hst => ?_⟩
          rw [rn_app, e2 (n :: st) (by show st.length + 1 + 1 ≤ 32; omega)]
          simp only [Option.bind_some]
          rw [rn_c]
          show Option.bind (s1 F 1100 (x :: n :: st)) _ = _
          have : s1 F 1100 (x :: n :: st) = some ((n + x) :: st) := by
            unfold s1
            rw [if_neg (by omega), if_neg (by omega)]
            rfl
          rw [this]
          exact y2 st hst
theorem fuel_big {N : Nat} (h : N ≤ 400) : N + 1 ≤ fuelN := by unfold fuelN; omega
theorem sum12 {T : TxT} {N p : Nat} {σ : St} {F : Nat → Int32} (h : PM T N σ p) (h12 : σ 0 12 = -1) (hF : FcS F σ) : RfI F 2 σ (sumP T N p) (q12_sum σ) := by
  have hpt := part12 h h12 hF
  have hgd := gd_part (T := T) (N := N) (p := p) h.2.1
  have hN := h.1.1
  unfold q12_sum sumP
  dsimp only [lt]
  cases hr : partP T N p with
  | inl e =>
    rw [hr] at hpt hgd
    obtain ⟨x, σ', e1, e2⟩ := hpt
    rw [e1]
    simp only [Option.bind_some]
    have he : e ≤ N := hgd
    refine ⟨x, σ', ?_, e2⟩
    have : Wo (loop2 (fun rec6_ (n9_ : Int32) (σ10_ : St) =>
  Option.bind (if (σ10_ 0 12) = (-1) then (Option.bind (q12_isSign σ10_ 43) fun x18_ =>
  if x18_.1 = true then (some (true, x18_.2)) else (some (false, x18_.2))) else (some (false, σ10_))) fun t15_ =>
  if t15_.1 = true then
  Option.bind (q12_part (up t15_.2 0 11 ((t15_.2 0 11) + 1))) fun x24_ =>
  rec6_ (n9_ + x24_.1) x24_.2
  else (some (n9_, t15_.2))) fuelN x σ') (fun r => r = (x, σ')) := by
      refine lpW2 0 (fun _ n w => n = x ∧ w = σ') ?_ fuelN 0 _ _ (Nat.zero_le _) (fuel_ok (by omega)) ⟨rfl, rfl⟩
      rintro rec t n w _ ⟨rfl, rfl⟩ _
      rw [if_neg (e2.no (by omega))]
      exact wo_some rfl
    obtain ⟨r, er, rfl⟩ := this
    rw [er]
    rfl
  | inr v =>
    obtain ⟨c, p1⟩ := v
    rw [hr] at hpt hgd
    obtain ⟨x, e1, e2⟩ := hpt
    rw [e1]
    simp only [Option.bind_some]
    have ih := sumL12 h h12 hF (N + 1) fuelN p1 x (by omega) (fuel_big hN) hgd.2.1
    show RfI F 2 σ (bnP (sumL T N (N + 1) p1) _) _
    cases hr2 : sumL T N (N + 1) p1 with
    | inl e =>
      rw [hr2] at ih
      obtain ⟨y, σ', y1, y2⟩ := ih
      rw [y1]
      exact ⟨y, σ', rfl, y2⟩
    | inr v2 =>
      obtain ⟨c2, p2⟩ := v2
      rw [hr2] at ih
      obtain ⟨y, y1, y2⟩ := ih
      rw [y1]
      refine ⟨y, rfl, fun st hst => ?_⟩
      rw [rn_app, e2 st (by omega)]
      exact y2 st hst
theorem b2i_toB (q : Bool) : toB (b2i q) = some q := by cases q <;> decide
theorem plain12 {T : TxT} {N p : Nat} {σ : St} {F : Nat → Int32} (h : PM T N σ p) (h12 : σ 0 12 = -1) (hF : FcS F σ) : RfB F 3 400 σ (plainP T N p) (q12_plain σ) := by
  have hb := sk_b (T := T) h.2.1
  have hsk : sk T N (sk T N p) = sk T N p := sk_sk h.2.1
  have hN := h.1.1
  have hP := h.of hb.2
  unfold q12_plain plainP
  dsimp only [lt]
  rw [has12 h (by decide)]
  simp only [Option.bind_some]
  by_cases c1 : wd T N (sk T N p) 24 = true
  · rw [c1]
    simp only [if_true]
    obtain ⟨q, q1, q2⟩ := hF.2.1
    rw [up_off (by decide), q1, b2i_toB]
    refine ⟨q, rfl, fun st hst => ?_⟩
    rw [rn_1]
    unfold s1
    rw [if_pos (by omega), if_pos (by omega), if_neg (by omega), ← q2]
  rw [Bool.not_eq_true _ |>.mp c1]
  simp only [Bool.false_eq_true, if_false]
  have hs := has12 (w := 25) hP (by decide)
  rw [hsk] at hs
  rw [hs]
  simp only [Option.bind_some]
  by_cases c2 : wd T N (sk T N p) 25 = true
  · rw [c2]
    simp only [if_true]
    obtain ⟨q, q1, q2⟩ := hF.2.2
    rw [up_up, up_off (by decide), q1, b2i_toB]
    refine ⟨q, rfl, fun st hst => ?_⟩
    rw [rn_1]
    unfold s1
    rw [if_pos (by omega), if_pos (by omega), if_neg (by omega), ← q2]
  rw [Bool.not_eq_true _ |>.mp c2]
  simp only [Bool.false_eq_true, if_false]
  rw [up_up]
  have h12b : up σ 0 11 (nI (sk T N p)) 0 12 = -1 := by rw [up_off (by decide)]; exact h12
  have hsum := sum12 hP h12b (fc_11 hF)
  have hpp : sumP T N (sk T N p) = sumP T N p := by
    unfold sumP partP
    rw [hsk]
  rw [hpp] at hsum
  have hgd := gd_sum (T := T) (N := N) (p := p) h.2.1
  cases hr : sumP T N p with
  | inl e =>
    rw [hr] at hsum hgd
    obtain ⟨x, σ', e1, e2⟩ := hsum
    have he : e ≤ N := hgd
    rw [e1]
    simp only [Option.bind_some]
    rw [if_pos (e2.no (by omega))]
    exact ⟨false, σ', rfl, er_tr e2⟩
  | inr v =>
    obtain ⟨c, p1⟩ := v
    rw [hr] at hsum hgd
    obtain ⟨x, e1, e2⟩ := hsum
    have hp1 : p1 ≤ N := hgd.2.1
    have hb1 := sk_b (T := T) hp1
    have hsk1 : sk T N (sk T N p1) = sk T N p1 := sk_sk hp1
    have hP1 := h.of hp1
    have hP1b := h.of hb1.2
    rw [e1]
    simp only [Option.bind_some]
    rw [up_up, if_neg (show ¬ ¬ up σ 0 11 (nI p1) 0 12 = -1 by rw [up_off (by decide)]; exact not_not_intro h12), sign12 hP1]
    simp only [Option.bind_some]
    rw [up_up]
    have hs62 := sign12 (c := 62) hP1b
    rw [hsk1, up_up] at hs62
    rw [hs62]
    simp only [Option.bind_some]
    show RfB F 3 400 σ (if sg T N (sk T N p1) 60 = true then _ else _) _
    have hsecond : ∀ k : Nat, k = 1101 ∨ k = 1102 → sk T N p1 < N → RfB F 3 400 σ (bnP (sumP T N (sk T N p1 + 1)) (fun c2 p2 => .inr (c ++ (c2 ++ [k]), p2))) (Option.bind (q12_sum (up σ 0 11 (nI (sk T N p1 + 1)))) fun x38_ => some (if (decide (k = 1101)) = true then decide (x < x38_.1) else decide (x38_.1 < x), x38_.2)) := fun k hk hl => by
      have hP2 := h.of (q := sk T N p1 + 1) (by omega)
      have h2 := sum12 hP2 (by rw [up_off (by decide)]; exact h12) (fc_11 hF)
      cases hr2 : sumP T N (sk T N p1 + 1) with
      | inl e =>
        rw [hr2] at h2
        obtain ⟨y, σ', y1, y2⟩ := h2
        rw [y1]
        exact ⟨_, σ', rfl, er_tr y2⟩
      | inr v2 =>
        obtain ⟨c2, p2⟩ := v2
        rw [hr2] at h2
        obtain ⟨y, y1, y2⟩ := h2
        rw [y1]
        simp only [Option.bind_some]
        rw [up_up]
        refine ⟨_, rfl, fun st hst => ?_⟩
        rw [rn_app, e2 st (by omega)]
        simp only [Option.bind_some]
        rw [rn_app, y2 (x :: st) (by show st.length + 1 + 2 ≤ 32; omega)]
        simp only [Option.bind_some]
        rw [rn_1]
        unfold s1
        rcases hk with rfl | rfl
        · rw [if_neg (by omega), if_neg (by omega)]
          show some ((if x < y then 1 else 0) :: st) = _
          by_cases hxy : x < y
          · rw [if_pos hxy, decide_eq_true rfl, if_pos rfl, decide_eq_true hxy]; rfl
          · rw [if_neg hxy, decide_eq_true rfl, if_pos rfl, decide_eq_false hxy]; rfl
        · rw [if_neg (by omega), if_neg (by omega)]
          show some ((if y < x then 1 else 0) :: st) = _
          by_cases hxy : y < x
          · rw [if_pos hxy, decide_eq_false (by omega), if_neg (by decide), decide_eq_true hxy]; rfl
          · rw [if_neg hxy, decide_eq_false (by omega), if_neg (by decide), decide_eq_false hxy]; rfl
    by_cases c3 : sg T N (sk T N p1) 60 = true
    · rw [c3]
      simp only [if_true, Option.bind_some, Bool.false_eq_true, if_false]
      rw [up_at, up_up, nI_1]
      exact hsecond 1101 (Or.inl rfl) (sg_b c3).1
    · rw [Bool.not_eq_true _ |>.mp c3]
      simp only [Bool.false_eq_true, if_false]
      by_cases c4 : sg T N (sk T N p1) 62 = true
      · rw [c4]
        simp only [if_true, Option.bind_some, Bool.false_eq_true, if_false]
        rw [up_at, up_up, nI_1]
        exact hsecond 1102 (Or.inr rfl) (sg_b c4).1
      · rw [Bool.not_eq_true _ |>.mp c4]
        simp only [Bool.false_eq_true, if_false, Option.bind_some, if_true]
        rw [wrong_ok (show up σ 0 11 (nI (sk T N p1)) 0 12 = -1 by rw [up_off (by decide)]; exact h12), up_at]
        exact ⟨false, _, rfl, er_up (by omega)⟩

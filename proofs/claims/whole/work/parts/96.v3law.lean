/-! LAYER 2: ROWS OF CONDITIONS, READ BY THE REFERENCE -/
def AtO (T : TxT) (N : Nat) (F : Nat → Int32) (H B d : Nat) (A : Nat → PR) (Aq : St → Option (Bool × St)) : Prop := ∀ (σ : St) (p : Nat), PM T N σ p → σ 0 12 = -1 → FcS F σ → σ 0 13 = nI d → RfB F H B σ (A p) (Aq σ)
def RwR (F : Nat → Int32) (H B : Nat) (σ : St) (v : Bool) (r : PR) (res : Option (Bool × St)) : Prop := match r with
  | .inl e => ∃ x σ', res = some (x, σ') ∧ ErS B σ σ' e
  | .inr (c, p1) => ∃ x, res = some (x, up σ 0 11 (nI p1)) ∧ ∀ st : List Int32, st.length + H ≤ 32 → rn F c (b2i v :: st) = some (b2i x :: st)
theorem rowL12 {T : TxT} {N p0 w k H B d : Nat} {σ : St} {F : Nat → Int32} {A : Nat → PR} {Aq : St → Option (Bool × St)} {g : Bool → Bool → Bool} (hw : w < 46) (hk : k = 1103 ∨ k = 1104) (hg : ∀ a b, q2_joined (nI k) (b2i a) (b2i b) = b2i (g a b)) (gA : GdA N A) (hA : AtO T N F H B d A Aq) (h : PM T N σ p0) (h12 : σ 0 12 = -1) (hF : FcS F σ) (h13 : σ 0 13 = nI d) : ∀ (f M p : Nat) (v : Bool), N - p < f → f ≤ M → p ≤ N → RwR F (H + 1) B σ v (rowL T N w k A f p) (loop2 (fun rec6_ (v9_ : Bool) (σ10_ : St) =>
  Option.bind (if (σ10_ 0 12) = (-1) then (Option.bind (q12_has σ10_ w) fun x18_ =>
  if x18_.1 = true then (some (true, x18_.2)) else (some (false, x18_.2))) else (some (false, σ10_))) fun t15_ =>
  if t15_.1 = true then
  Option.bind (Aq t15_.2) fun x22_ =>
  rec6_ (g v9_ x22_.1) x22_.2
  else (some (v9_, t15_.2))) M v (up σ 0 11 (nI p)))
  | 0, M, p, v, h1, h2, hp => absurd h1 (Nat.not_lt_zero _)
  | f + 1, 0, p, v, h1, h2, hp => absurd h2 (by omega)
  | f + 1, M + 1, p, v, h1, h2, hp => by
    have hb := sk_b (T := T) hp
    have hN := h.1.1
    have hP := h.of hp
    have hex : ∀ (M' : Nat) (n' : Bool) (y : St), ¬ y 0 12 = -1 → loop2 (fun (rec6_ : Bool → St → Option (Bool × St)) (v9_ : Bool) (σ10_ : St) =>
  Option.bind (if (σ10_ 0 12) = (-1) then (Option.bind (q12_has σ10_ w) fun x18_ =>
  if x18_.1 = true then (some (true, x18_.2)) else (some (false, x18_.2))) else (some (false, σ10_))) fun t15_ =>
  if t15_.1 = true then
  Option.bind (Aq t15_.2) fun x22_ =>
  rec6_ (g v9_ x22_.1) x22_.2
  else (some (v9_, t15_.2))) (M' + 1) n' y = some (n', y) := fun M' n' y hy => by
      show Option.bind (if (y 0 12) = (-1) then _ else _) _ = _
      rw [if_neg hy]
      rfl
    show RwR F (H + 1) B σ v _ (Option.bind (if (up σ 0 11 (nI p) 0 12) = (-1) then (Option.bind (q12_has (up σ 0 11 (nI p)) w) fun x18_ =>
  if x18_.1 = true then (some (true, x18_.2)) else (some (false, x18_.2))) else (some (false, up σ 0 11 (nI p)))) fun t15_ => _)
    rw [if_pos (show up σ 0 11 (nI p) 0 12 = -1 by rw [up_off (by decide)]; exact h12), has12 hP hw]
    simp only [Option.bind_some]
    rw [up_up]
    unfold rowL
    cases hs : wd T N (sk T N p) w with
    | false =>
      simp only [Bool.false_eq_true, if_false, Option.bind_some]
      exact ⟨v, rfl, fun st _ => rfl⟩
    | true =>
      simp only [if_true, Option.bind_some]
      have hl := wd_b hs hw hb.2
      have hP2 := h.of (q := te T N (sk T N p)) hl.2.1
      have hpt := hA _ _ hP2 (by rw [up_off (by decide)]; exact h12) (fc_11 hF) (by rw [up_off (by decide)]; exact h13)
      have hgd := gA (te T N (sk T N p)) hl.2.1
      cases hr : A (te T N (sk T N p)) with
      | inl e =>
        rw [hr] at hpt hgd
        obtain ⟨x, σ', e1, e2⟩ := hpt
        rw [e1]
        simp only [Option.bind_some]
        have he : e ≤ N := hgd
        obtain ⟨M', rfl⟩ : ∃ M', M = M' + 1 := ⟨M - 1, by omega⟩
        rw [hex M' _ σ' (e2.no (by omega))]
        exact ⟨_, _, rfl, er_tr e2⟩
      | inr y =>
        obtain ⟨c, p1⟩ := y
        rw [hr] at hpt hgd
        obtain ⟨x, e1, e2⟩ := hpt
        rw [e1]
        simp only [Option.bind_some]
        rw [up_up]
        have hg1 : c.length + te T N (sk T N p) ≤ p1 := hgd.1
        have hg2 : p1 ≤ N := hgd.2.1
        have ih := rowL12 hw hk hg gA hA h h12 hF h13 f M p1 (g v x) (by omega) (by omega) hg2
        show RwR F (H + 1) B σ v (bnP (rowL T N w k A f p1) _) _
        cases hr2 : rowL T N w k A f p1 with
        | inl e =>
          rw [hr2] at ih
          exact ih
        | inr v2 =>
          obtain ⟨c2, p2⟩ := v2
          rw [hr2] at ih
          obtain ⟨y, y1, y2⟩ := ih
          refine ⟨y, y1, fun st hst => ?_⟩
          rw [rn_app, e2 (b2i v :: st) (by show st.length + 1 + H ≤ 32; omega)]
          simp only [Option.bind_some]
          rw [rn_c]
          have : s1 F k (b2i x :: b2i v :: st) = some (b2i (g v x) :: st) := by
            unfold s1
            rw [if_neg (by omega), if_neg (by omega), ← hg]
          rw [this]
          exact y2 st hst
theorem row12 {T : TxT} {N w k H B d : Nat} {F : Nat → Int32} {A : Nat → PR} {Aq : St → Option (Bool × St)} {g : Bool → Bool → Bool} (hw : w < 46) (hk : k = 1103 ∨ k = 1104) (hg : ∀ a b, q2_joined (nI k) (b2i a) (b2i b) = b2i (g a b)) (gA : GdA N A) (hA : AtO T N F H B d A Aq) : AtO T N F (H + 1) B d (rowP T N w k A) (fun σ => Option.bind (Aq σ) fun x1_ =>
  Option.bind (loop2 (fun rec6_ (v9_ : Bool) (σ10_ : St) =>
  Option.bind (if (σ10_ 0 12) = (-1) then (Option.bind (q12_has σ10_ w) fun x18_ =>
  if x18_.1 = true then (some (true, x18_.2)) else (some (false, x18_.2))) else (some (false, σ10_))) fun t15_ =>
  if t15_.1 = true then
  Option.bind (Aq t15_.2) fun x22_ =>
  rec6_ (g v9_ x22_.1) x22_.2
  else (some (v9_, t15_.2))) fuelN x1_.1 x1_.2) fun y3_ =>
  some (y3_.1, y3_.2)) := fun σ p h h12 hF h13 => by
  have hpt := hA σ p h h12 hF h13
  have hgd := gA p h.2.1
  have hN := h.1.1
  unfold rowP
  dsimp only
  cases hr : A p with
  | inl e =>
    rw [hr] at hpt hgd
    obtain ⟨x, σ', e1, e2⟩ := hpt
    rw [e1]
    simp only [Option.bind_some]
    have he : e ≤ N := hgd
    refine ⟨x, σ', ?_, e2⟩
    have : Wo (loop2 (fun rec6_ (v9_ : Bool) (σ10_ : St) =>
  Option.bind (if (σ10_ 0 12) = (-1) then (Option.bind (q12_has σ10_ w) fun x18_ =>
  if x18_.1 = true then (some (true, x18_.2)) else (some (false, x18_.2))) else (some (false, σ10_))) fun t15_ =>
  if t15_.1 = true then
  Option.bind (Aq t15_.2) fun x22_ =>
  rec6_ (g v9_ x22_.1) x22_.2
  else (some (v9_, t15_.2))) fuelN x σ') (fun r => r = (x, σ')) := by
      refine lpW2 0 (fun _ n w => n = x ∧ w = σ') ?_ fuelN 0 _ _ (Nat.zero_le _) (fuel_ok (by omega)) ⟨rfl, rfl⟩
      rintro rec t n w _ ⟨rfl, rfl⟩ _
      rw [if_neg (e2.no (by omega))]
      exact wo_some rfl
    obtain ⟨r, er, rfl⟩ := this
    rw [er]
    rfl
  | inr v =>
    obtain ⟨c, p1⟩ := v
    rw [hr] at hpt hgd
    obtain ⟨x, e1, e2⟩ := hpt
    rw [e1]
    simp only [Option.bind_some]
    have ih := rowL12 (g := g) hw hk hg gA hA h h12 hF h13 (N + 1) fuelN p1 x (by omega) (fuel_big hN) hgd.2.1
    show RfB F (H + 1) B σ (bnP (rowL T N w k A (N + 1) p1) _) _
    cases hr2 : rowL T N w k A (N + 1) p1 with
    | inl e =>
      rw [hr2] at ih
      obtain ⟨y, σ', y1, y2⟩ := ih
      rw [y1]
      exact ⟨y, σ', rfl, y2⟩
    | inr v2 =>
      obtain ⟨c2, p2⟩ := v2
      rw [hr2] at ih
      obtain ⟨y, y1, y2⟩ := ih
      rw [y1]
      refine ⟨y, rfl, fun st hst => ?_⟩
      rw [rn_app, e2 st (by omega)]
      exact y2 st hst
theorem j_and : ∀ a b, q2_joined (nI 1103) (b2i a) (b2i b) = b2i (decide ((a = true) ∧ (b = true))) := by decide
theorem j_or : ∀ a b, q2_joined (nI 1104) (b2i a) (b2i b) = b2i (decide ((a = true) ∨ (b = true))) := by decide
theorem ev12 {T : TxT} {N H B d : Nat} {F : Nat → Int32} {A : Nat → PR} {Aq : St → Option (Bool × St)} (gA : GdA N A) (hA : AtO T N F H B d A Aq) : AtO T N F (H + 1) B d (evP T N A) (q12_every Aq) := row12 (g := fun a b => decide ((a = true) ∧ (b = true))) (by decide) (Or.inl rfl) j_and gA hA
theorem sm12 {T : TxT} {N H B d : Nat} {F : Nat → Int32} {A : Nat → PR} {Aq : St → Option (Bool × St)} (gA : GdA N A) (hA : AtO T N F H B d A Aq) : AtO T N F (H + 2) B d (smP T N A) (q12_some Aq) := row12 (g := fun a b => decide ((a = true) ∨ (b = true))) (by decide) (Or.inr rfl) j_or (gd_row gA (by decide)) (ev12 gA hA)
theorem up_b1 {σ : St} {a b c : Int32} : up (up (up (up σ 0 11 a) 0 13 b) 0 11 c) 0 13 (σ 0 13) = up σ 0 11 c := by
  rw [up_cm (σ := up σ 0 11 a) (k := 13) (l := 11) (by decide), up_up, up_up]
  have : up σ 0 11 c 0 13 = σ 0 13 := up_off (by decide)
  rw [← this, up_same]
theorem at12 {T : TxT} {N : Nat} {F : Nat → Int32} : ∀ r j, r ≤ 6 → AtO T N F (3 + 2 * r) (400 + r) (6 - r) (atP T N r) (q12_atom (r + 1 + j))
  | r, j, hr6 => fun σ p h h12 hF h13 => by
    have hb := sk_b (T := T) h.2.1
    have hsk : sk T N (sk T N p) = sk T N p := sk_sk h.2.1
    have hN := h.1.1
    have hP := h.of hb.2
    have hq : q12_atom (r + 1 + j) σ = q12_atomB (q12_atom (r + j)) σ := by
      rw [show r + 1 + j = (r + j) + 1 from by omega]
      rfl
    have hPL : RfB F (3 + 2 * r) (400 + r) σ (plainP T N p) (q12_plain (up σ 0 11 (nI (sk T N p)))) := by
      have h1 := plain12 hP (by rw [up_off (by decide)]; exact h12) (fc_11 hF)
      have hpp : plainP T N (sk T N p) = plainP T N p := by
        unfold plainP sumP partP
        rw [hsk]
      rw [hpp] at h1
      cases hr2 : plainP T N p with
      | inl e =>
        rw [hr2] at h1
        obtain ⟨x, σ', e1, e2⟩ := h1
        exact ⟨x, σ', e1, (er_tr e2).mo (by omega)⟩
      | inr v =>
        obtain ⟨c, p1⟩ := v
        rw [hr2] at h1
        obtain ⟨x, e1, e2⟩ := h1
        refine ⟨x, by rw [e1, up_up], fun st hst => e2 st (by omega)⟩
    rw [hq]
    unfold q12_atomB
    dsimp only [lt]
    rw [if_neg (not_not_intro h12), here_ok h]
    simp only [Option.bind_some]
    have hs := has12 (w := 23) hP (by decide)
    rw [hsk, up_up] at hs
    have hs2 := sign12 (c := 40) hP
    rw [hsk, up_up] at hs2
    rw [hs]
    simp only [Option.bind_some]
    have e6 : nI (6 - r) = 6 ↔ r = 0 := by
      rw [show (6 : Int32) = nI 6 from rfl, nI_eq (by omega) (by omega)]
      omega
    by_cases c1 : wd T N (sk T N p) 23 = true
    · have hl := wd_b c1 (by decide) hb.2
      rw [c1]
      simp only [if_true, Option.bind_some, Bool.false_eq_true, if_false]
      have h13' : up σ 0 11 (nI (te T N (sk T N p))) 0 13 = nI (6 - r) := by rw [up_off (by decide)]; exact h13
      rw [h13']
      cases r with
      | zero =>
        rw [if_pos (e6.mpr rfl), wrong_ok (show up σ 0 11 (nI (te T N (sk T N p))) 0 12 = -1 by rw [up_off (by decide)]; exact h12)]
        unfold atP
        rw [if_pos c1]
        exact ⟨false, _, rfl, (er_up (by omega)).mo (by omega)⟩
      | succ r =>
        rw [if_neg (fun q => by have := e6.mp q; omega)]
        unfold atP
        rw [if_pos c1]
        have e5 : nI (6 - (r + 1)) + 1 = nI (6 - r) := by rw [nI_1]; congr 1; omega
        rw [e5]
        have hP2 : PM T N (up (up σ 0 11 (nI (te T N (sk T N p)))) 0 13 (nI (6 - r))) (te T N (sk T N p)) := (h.of hl.2.1).u0 (by decide) (by decide) (by decide)
        have ih := at12 (T := T) (N := N) (F := F) r (j + 1) (by omega) _ _ hP2 (by rw [up_off (by decide), up_off (by decide)]; exact h12) ((fc_11 hF).to (up_pl (by decide)) (up_off (by decide)) (up_off (by decide))) up_at
        rw [show r + 1 + (j + 1) = r + 1 + j + 1 from by omega] at ih
        rw [show r + 1 + j = r + 1 + j from rfl]
        have hqq : q12_atom (r + 1 + (j + 0)) = q12_atom (r + 1 + j) := rfl
        have ih2 := at12 (T := T) (N := N) (F := F) r j (by omega) _ _ hP2 (by rw [up_off (by decide), up_off (by decide)]; exact h12) ((fc_11 hF).to (up_pl (by decide)) (up_off (by decide)) (up_off (by decide))) up_at
        cases hr2 : atP T N r (te T N (sk T N p)) with
        | inl e =>
          rw [hr2] at ih2
          obtain ⟨x, σ', e1, e2⟩ := ih2
          rw [e1]
          have hE : ErS (400 + (r + 1)) σ (up σ' 0 13 (σ' 0 13 - 1)) e := by
            obtain ⟨q, q1, q2⟩ := e2.2.2.2
            exact ⟨by rw [up_off (by decide)]; exact e2.1, fun i hi => by rw [up_pl hi, e2.2.1 i hi, up_pl hi, up_pl hi], fun k k1 k2 k3 => by rw [up_off k3, e2.2.2.1 k k1 k2 k3, up_off k3, up_off k1], q, by omega, by rw [up_off (by decide)]; exact q2⟩
          cases x with
          | true => exact ⟨false, _, rfl, hE⟩
          | false => exact ⟨true, _, rfl, hE⟩
        | inr v =>
          obtain ⟨c, p1⟩ := v
          rw [hr2] at ih2
          obtain ⟨x, e1, e2⟩ := ih2
          rw [e1]
          have hst : ∀ st : List Int32, st.length + (3 + 2 * (r + 1)) ≤ 32 → rn F (c ++ [1105]) st = some (b2i (!x) :: st) := fun st hst => by
            rw [rn_app, e2 st (by omega)]
            simp only [Option.bind_some]
            rw [rn_1]
            unfold s1
            rw [if_neg (by omega), if_pos rfl]
            cases x <;> rfl
          have hz : up (up (up σ 0 11 (nI (te T N (sk T N p)))) 0 13 (nI (6 - r))) 0 11 (nI p1) 0 13 - 1 = σ 0 13 := by
            rw [up_off (by decide), up_at, h13]
            have := nI_pred (6 - (r + 1))
            rw [show 6 - (r + 1) + 1 = 6 - r from by omega] at this
            exact this
          cases x with
          | true =>
            refine ⟨false, ?_, hst⟩
            simp only [not_true_eq_false, if_false, Option.bind_some]
            rw [hz, up_b1]
          | false =>
            refine ⟨true, ?_, hst⟩
            simp only [Bool.false_eq_true, not_false_eq_true, if_true, Option.bind_some]
            rw [hz, up_b1]
    · rw [Bool.not_eq_true _ |>.mp c1]
      simp only [Bool.false_eq_true, if_false]
      rw [hs2]
      simp only [Option.bind_some]
      by_cases c2 : sg T N (sk T N p) 40 = true
      · have hl := (sg_b c2).1
        rw [c2]
        simp only [if_true, Option.bind_some, Bool.false_eq_true, if_false]
        have h13' : up σ 0 11 (nI (sk T N p)) 0 13 = nI (6 - r) := by rw [up_off (by decide)]; exact h13
        rw [h13']
        cases r with
        | zero =>
          rw [if_pos (e6.mpr rfl), wrong_ok (show up σ 0 11 (nI (sk T N p)) 0 12 = -1 by rw [up_off (by decide)]; exact h12)]
          unfold atP
          rw [if_neg c1, if_pos c2]
          exact ⟨false, _, rfl, (er_up (by omega)).mo (by omega)⟩
        | succ r =>
          rw [if_neg (fun q => by have := e6.mp q; omega)]
          unfold atP
          rw [if_neg c1, if_pos c2]
          have e5 : nI (6 - (r + 1)) + 1 = nI (6 - r) := by rw [nI_1]; congr 1; omega
          rw [e5, up_off (show (11 : Nat) ≠ 13 by decide), up_at, nI_1]
          have hcm : up (up (up σ 0 11 (nI (sk T N p))) 0 13 (nI (6 - r))) 0 11 (nI (sk T N p + 1)) = up (up σ 0 11 (nI (sk T N p + 1))) 0 13 (nI (6 - r)) := by
            rw [up_cm (σ := up σ 0 11 (nI (sk T N p))) (k := 13) (l := 11) (by decide), up_up]
          rw [hcm]
          have hP2 : PM T N (up (up σ 0 11 (nI (sk T N p + 1))) 0 13 (nI (6 - r))) (sk T N p + 1) := (h.of (q := sk T N p + 1) (by omega)).u0 (by decide) (by decide) (by decide)
          have hAr := at12 (T := T) (N := N) (F := F) r j (by omega)
          have ih2 := sm12 (gd_at r) hAr _ _ hP2 (by rw [up_off (by decide), up_off (by decide)]; exact h12) ((fc_11 hF).to (up_pl (by decide)) (up_off (by decide)) (up_off (by decide))) up_at
          have hgd := gd_sm (T := T) (gd_at (T := T) (N := N) r) (sk T N p + 1) (by omega)
          cases hr2 : smP T N (atP T N r) (sk T N p + 1) with
          | inl e =>
            rw [hr2] at ih2 hgd
            have he : e ≤ N := hgd
            obtain ⟨x, σ', e1, e2⟩ := ih2
            rw [e1]
            simp only [Option.bind_some]
            rw [if_neg (e2.no (by omega))]
            simp only [Option.bind_some, Bool.false_eq_true, if_false]
            refine ⟨x, _, rfl, ?_⟩
            obtain ⟨q, q1, q2⟩ := e2.2.2.2
            exact ⟨by rw [up_off (by decide), up_off (by decide)]; exact e2.1, fun i hi => by rw [up_pl hi, up_pl hi, e2.2.1 i hi, up_pl hi, up_pl hi], fun k k1 k2 k3 => by rw [up_off k3, up_off k1, e2.2.2.1 k k1 k2 k3, up_off k3, up_off k1], q + 1, by omega, by rw [up_off (by decide), up_at, q2, nI_1]⟩
          | inr v =>
            obtain ⟨c, p1⟩ := v
            rw [hr2] at ih2 hgd
            obtain ⟨x, e1, e2⟩ := ih2
            have hp1 : p1 ≤ N := hgd.2.1
            have hb1 := sk_b (T := T) hp1
            have hPp : PM T N (up (up (up σ 0 11 (nI (sk T N p + 1))) 0 13 (nI (6 - r))) 0 11 (nI p1)) p1 := hP2.of hp1
            rw [e1]
            simp only [Option.bind_some]
            rw [if_pos (show up (up (up σ 0 11 (nI (sk T N p + 1))) 0 13 (nI (6 - r))) 0 11 (nI p1) 0 12 = -1 by rw [up_off (by decide), up_off (by decide), up_off (by decide)]; exact h12), sign12 hPp]
            simp only [Option.bind_some]
            rw [up_up]
            show RfB F (3 + 2 * (r + 1)) (400 + (r + 1)) σ (if sg T N (sk T N p1) 41 = true then _ else _) _
            have hz : ∀ q : Int32, up (up (up (up σ 0 11 (nI (sk T N p + 1))) 0 13 (nI (6 - r))) 0 11 (nI (sk T N p1))) 0 11 q 0 13 - 1 = σ 0 13 := fun q => by
              rw [up_off (by decide), up_off (by decide), up_at, h13]
              have := nI_pred (6 - (r + 1))
              rw [show 6 - (r + 1) + 1 = 6 - r from by omega] at this
              exact this
            cases c3 : sg T N (sk T N p1) 41 with
            | true =>
              simp only [if_true, Option.bind_some, Bool.false_eq_true, if_false]
              rw [hz, up_at, nI_1, up_up, up_b1]
              exact ⟨x, rfl, fun st hst => e2 st (by omega)⟩
            | false =>
              simp only [Bool.false_eq_true, if_false, Option.bind_some, if_true]
              rw [wrong_ok (show up (up (up σ 0 11 (nI (sk T N p + 1))) 0 13 (nI (6 - r))) 0 11 (nI (sk T N p1)) 0 12 = -1 by rw [up_off (by decide), up_off (by decide), up_off (by decide)]; exact h12), up_at]
              refine ⟨x, _, rfl, ?_⟩
              dsimp only
              exact ⟨by rw [up_off (by decide), up_off (by decide), up_at], fun i hi => by rw [up_pl hi, up_pl hi, up_pl hi, up_pl hi, up_pl hi, up_pl hi], fun k k1 k2 k3 => by rw [up_off k3, up_off k1, up_off k2, up_off k1, up_off k3, up_off k1], sk T N p1 + 1, by omega, by rw [up_off (by decide), up_at, up_off (by decide), up_at, nI_1]⟩
      · rw [Bool.not_eq_true _ |>.mp c2]
        simp only [Bool.false_eq_true, if_false, Option.bind_some, if_true]
        have hat : atP T N r p = plainP T N p := by
          cases r with
          | zero => unfold atP; rw [if_neg c1, if_neg c2]
          | succ r => unfold atP; rw [if_neg c1, if_neg c2]
        rw [hat]
        cases hr2 : plainP T N p with
        | inl e =>
          rw [hr2] at hPL
          obtain ⟨x, σ', e1, e2⟩ := hPL
          rw [e1]
          exact ⟨x, σ', rfl, e2⟩
        | inr v =>
          obtain ⟨c, p1⟩ := v
          rw [hr2] at hPL
          obtain ⟨x, e1, e2⟩ := hPL
          rw [e1]
          exact ⟨x, rfl, e2⟩

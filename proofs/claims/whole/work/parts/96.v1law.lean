/-! LAYER 2: THE LAW'S TEXT, READ INTO CODE -/
abbrev PR : Type := Nat ⊕ (List Nat × Nat)
def bnP (r : PR) (f : List Nat → Nat → PR) : PR := match r with
  | .inl e => .inl e
  | .inr (c, p) => f c p
def pcode (T : TxT) (N b : Nat) : Option Nat := match nm T N b 999 with
  | some v => some v
  | none => if wd T N b 26 = true then some 1000 else if wd T N b 27 = true then some 1001 else if wd T N b 7 = true then some 1002 else if wd T N b 1 = true then some 1003 else if wd T N b 28 = true then some 1004 else if wd T N b 29 = true then some 1005 else if wd T N b 5 = true then some 1006 else none
def partP (T : TxT) (N p : Nat) : PR := match pcode T N (sk T N p) with
  | some c => .inr ([c], te T N (sk T N p))
  | none => .inl (sk T N p)
def sumL (T : TxT) (N : Nat) : Nat → Nat → PR
  | 0, p => .inr ([], sk T N p)
  | f + 1, p => if sg T N (sk T N p) 43 = true then bnP (partP T N (sk T N p + 1)) (fun c p1 => bnP (sumL T N f p1) (fun c2 p2 => .inr (c ++ 1100 :: c2, p2))) else .inr ([], sk T N p)
def sumP (T : TxT) (N p : Nat) : PR := bnP (partP T N p) (fun c p1 => bnP (sumL T N (N + 1) p1) (fun c2 p2 => .inr (c ++ c2, p2)))
def plainP (T : TxT) (N p : Nat) : PR := if wd T N (sk T N p) 24 = true then .inr ([1007], te T N (sk T N p)) else if wd T N (sk T N p) 25 = true then .inr ([1008], te T N (sk T N p)) else bnP (sumP T N p) (fun c1 p1 => if sg T N (sk T N p1) 60 = true then bnP (sumP T N (sk T N p1 + 1)) (fun c2 p2 => .inr (c1 ++ (c2 ++ [1101]), p2)) else if sg T N (sk T N p1) 62 = true then bnP (sumP T N (sk T N p1 + 1)) (fun c2 p2 => .inr (c1 ++ (c2 ++ [1102]), p2)) else .inl (sk T N p1))
/-- one, and others behind a word -/
def rowL (T : TxT) (N w k : Nat) (A : Nat → PR) : Nat → Nat → PR
  | 0, p => .inr ([], sk T N p)
  | f + 1, p => if wd T N (sk T N p) w = true then bnP (A (te T N (sk T N p))) (fun c p1 => bnP (rowL T N w k A f p1) (fun c2 p2 => .inr (c ++ k :: c2, p2))) else .inr ([], sk T N p)
def rowP (T : TxT) (N w k : Nat) (A : Nat → PR) (p : Nat) : PR := bnP (A p) (fun c p1 => bnP (rowL T N w k A (N + 1) p1) (fun c2 p2 => .inr (c ++ c2, p2)))
def evP (T : TxT) (N : Nat) (A : Nat → PR) (p : Nat) : PR := rowP T N 30 1103 A p
def smP (T : TxT) (N : Nat) (A : Nat → PR) (p : Nat) : PR := rowP T N 31 1104 (evP T N A) p
def atP (T : TxT) (N : Nat) : Nat → Nat → PR
  | 0, p => if wd T N (sk T N p) 23 = true then .inl (sk T N p) else if sg T N (sk T N p) 40 = true then .inl (sk T N p) else plainP T N p
  | r + 1, p => if wd T N (sk T N p) 23 = true then bnP (atP T N r (te T N (sk T N p))) (fun c p1 => .inr (c ++ [1105], p1)) else if sg T N (sk T N p) 40 = true then bnP (smP T N (atP T N r) (sk T N p + 1)) (fun c p1 => if sg T N (sk T N p1) 41 = true then .inr (c, sk T N p1 + 1) else .inl (sk T N p1)) else plainP T N p
/-- it goes on, and no code is longer than its text -/
def Gd (N m : Nat) (p : Nat) (r : PR) : Prop := match r with
  | .inl e => e ≤ N
  | .inr (c, p1) => c.length + p ≤ p1 ∧ p1 ≤ N ∧ m ≤ c.length
theorem gd_bn {N p q m m' : Nat} {r : PR} {f : List Nat → Nat → PR} (h : Gd N m q r) (k : ∀ c p1, c.length + q ≤ p1 → p1 ≤ N → m ≤ c.length → Gd N m' p (f c p1)) : Gd N m' p (bnP r f) := by
  rcases r with e | ⟨c, p1⟩
  · exact h
  · exact k c p1 h.1 h.2.1 h.2.2
theorem wd_b {T : TxT} {N b w : Nat} (h : wd T N b w = true) (hw : w < 46) (hb : b ≤ N) : b + 1 ≤ te T N b ∧ te T N b ≤ N ∧ b < N := by
  unfold wd at h
  rw [Bool.and_eq_true, decide_eq_true_eq] at h
  have hl : b < N := by
    have := h.1
    unfold kd at this
    split at this
    · assumption
    · omega
  have := te_b (T := T) hb
  exact ⟨this.2.2 hl, this.2.1, hl⟩
theorem sg_b {T : TxT} {N b : Nat} {c : Int32} (h : sg T N b c = true) : b < N ∧ T b = c := by
  unfold sg at h
  rw [Bool.and_eq_true, decide_eq_true_eq, decide_eq_true_eq] at h
  exact h
theorem te_sg {T : TxT} {N b : Nat} {c : Int32} (h : sg T N b c = true) (hc : kdI c = 3) : te T N b = b + 1 := by
  obtain ⟨h1, h2⟩ := sg_b h
  unfold te
  rw [if_pos h1, h2, if_pos hc]
theorem pcode_b {T : TxT} {N b c : Nat} (h : pcode T N b = some c) (hb : b ≤ N) : b < N ∧ c < 1007 := by
  unfold pcode at h
  cases hn : nm T N b 999 with
  | some v =>
    rw [hn] at h
    cases h
    have hv := nm_b hn
    unfold nm at hn
    split at hn
    · next q =>
      refine ⟨?_, by omega⟩
      have := q.1
      unfold kd at this
      split at this
      · assumption
      · omega
    · cases hn
  | none =>
    rw [hn] at h
    dsimp only at h
    have key : ∀ w k, wd T N b w = true → w < 46 → some k = some c → k < 1007 → b < N ∧ c < 1007 := fun w k h1 h2 h3 h4 => by
      cases h3
      exact ⟨(wd_b h1 h2 hb).2.2, h4⟩
    split at h
    · exact key _ _ (by assumption) (by decide) h (by omega)
    · split at h
      · exact key _ _ (by assumption) (by decide) h (by omega)
      · split at h
        · exact key _ _ (by assumption) (by decide) h (by omega)
        · split at h
          · exact key _ _ (by assumption) (by decide) h (by omega)
          · split at h
            · exact key _ _ (by assumption) (by decide) h (by omega)
            · split at h
              · exact key _ _ (by assumption) (by decide) h (by omega)
              · split at h
                · exact key _ _ (by assumption) (by decide) h (by omega)
                · cases h
theorem gd_part {T : TxT} {N p : Nat} (hp : p ≤ N) : Gd N 1 p (partP T N p) := by
  unfold partP
  have hb := sk_b (T := T) hp
  cases h : pcode T N (sk T N p) with
  | some c =>
    have h1 := (pcode_b h hb.2).1
    have ht := te_b (T := T) hb.2
    have := ht.2.2 h1
    exact ⟨by show 1 + p ≤ _; omega, ht.2.1, Nat.le_refl _⟩
  | none => exact hb.2
theorem gd_nil {T : TxT} {N p : Nat} (hp : p ≤ N) : Gd N 0 p (.inr ([], sk T N p)) := ⟨by have := sk_b (T := T) hp; show 0 + p ≤ _; omega, (sk_b hp).2, Nat.zero_le _⟩
theorem gd_sumL {T : TxT} {N : Nat} : ∀ f p, p ≤ N → Gd N 0 p (sumL T N f p)
  | 0, p, hp => gd_nil hp
  | f + 1, p, hp => by
    have hb := sk_b (T := T) hp
    unfold sumL
    split
    · next h =>
      have := (sg_b h).1
      refine gd_bn (gd_part (p := sk T N p + 1) (by omega)) (fun c p1 h1 h2 h3 => ?_)
      refine gd_bn (gd_sumL f p1 h2) (fun c2 p2 h4 h5 h6 => ?_)
      exact ⟨by show (c ++ 1100 :: c2).length + p ≤ p2; rw [List.length_append, List.length_cons]; omega, h5, Nat.zero_le _⟩
    · exact gd_nil hp
theorem gd_sum {T : TxT} {N p : Nat} (hp : p ≤ N) : Gd N 1 p (sumP T N p) := by
  unfold sumP
  refine gd_bn (gd_part hp) (fun c p1 h1 h2 h3 => ?_)
  refine gd_bn (gd_sumL (N + 1) p1 h2) (fun c2 p2 h4 h5 h6 => ?_)
  exact ⟨by show (c ++ c2).length + p ≤ p2; rw [List.length_append]; omega, h5, by rw [List.length_append]; omega⟩
theorem gd_plain {T : TxT} {N p : Nat} (hp : p ≤ N) : Gd N 1 p (plainP T N p) := by
  have hb := sk_b (T := T) hp
  unfold plainP
  have hw : ∀ k w, wd T N (sk T N p) w = true → w < 46 → Gd N 1 p (.inr ([k], te T N (sk T N p))) := fun k w h1 h2 => by
    have := wd_b h1 h2 hb.2
    exact ⟨by show 1 + p ≤ _; omega, this.2.1, Nat.le_refl _⟩
  split
  · exact hw _ _ (by assumption) (by decide)
  · split
    · exact hw _ _ (by assumption) (by decide)
    · refine gd_bn (gd_sum hp) (fun c p1 h1 h2 h3 => ?_)
      have hb1 := sk_b (T := T) h2
      split
      · next h =>
        have := (sg_b h).1
        refine gd_bn (gd_sum (p := sk T N p1 + 1) (by omega)) (fun c2 p2 h4 h5 h6 => ?_)
        exact ⟨by show (c ++ (c2 ++ [1101])).length + p ≤ p2; rw [List.length_append, List.length_append]; show c.length + (c2.length + 1) + p ≤ p2; omega, h5, by rw [List.length_append]; omega⟩
      · split
        · next h =>
          have := (sg_b h).1
          refine gd_bn (gd_sum (p := sk T N p1 + 1) (by omega)) (fun c2 p2 h4 h5 h6 => ?_)
          exact ⟨by show (c ++ (c2 ++ [1102])).length + p ≤ p2; rw [List.length_append, List.length_append]; show c.length + (c2.length + 1) + p ≤ p2; omega, h5, by rw [List.length_append]; omega⟩
        · exact hb1.2
def GdA (N : Nat) (A : Nat → PR) : Prop := ∀ p, p ≤ N → Gd N 1 p (A p)
theorem gd_rowL {T : TxT} {N w k : Nat} {A : Nat → PR} (hA : GdA N A) (hw : w < 46) : ∀ f p, p ≤ N → Gd N 0 p (rowL T N w k A f p)
  | 0, p, hp => gd_nil hp
  | f + 1, p, hp => by
    have hb := sk_b (T := T) hp
    unfold rowL
    split
    · next h =>
      have := wd_b h hw hb.2
      refine gd_bn (hA (te T N (sk T N p)) (by omega)) (fun c p1 h1 h2 h3 => ?_)
      refine gd_bn (gd_rowL hA hw f p1 h2) (fun c2 p2 h4 h5 h6 => ?_)
      exact ⟨by show (c ++ k :: c2).length + p ≤ p2; rw [List.length_append, List.length_cons]; omega, h5, Nat.zero_le _⟩
    · exact gd_nil hp
theorem gd_row {T : TxT} {N w k : Nat} {A : Nat → PR} (hA : GdA N A) (hw : w < 46) : GdA N (rowP T N w k A) := fun p hp => by
  unfold rowP
  refine gd_bn (hA p hp) (fun c p1 h1 h2 h3 => ?_)
  refine gd_bn (gd_rowL hA hw (N + 1) p1 h2) (fun c2 p2 h4 h5 h6 => ?_)
  exact ⟨by show (c ++ c2).length + p ≤ p2; rw [List.length_append]; omega, h5, by rw [List.length_append]; omega⟩
theorem gd_sm {T : TxT} {N : Nat} {A : Nat → PR} (hA : GdA N A) : GdA N (smP T N A) := gd_row (gd_row hA (by decide)) (by decide)
theorem gd_at {T : TxT} {N : Nat} : ∀ r, GdA N (atP T N r)
  | 0, p, hp => by
    have hb := sk_b (T := T) hp
    unfold atP
    split
    · exact hb.2
    · split
      · exact hb.2
      · exact gd_plain hp
  | r + 1, p, hp => by
    have hb := sk_b (T := T) hp
    unfold atP
    split
    · next h =>
      have := wd_b h (by decide) hb.2
      refine gd_bn (gd_at r (te T N (sk T N p)) (by omega)) (fun c p1 h1 h2 h3 => ?_)
      exact ⟨by show (c ++ [1105]).length + p ≤ p1; rw [List.length_append]; show c.length + 1 + p ≤ p1; omega, h2, by rw [List.length_append]; omega⟩
    · split
      · next h =>
        have := (sg_b h).1
        refine gd_bn (gd_sm (gd_at r) (sk T N p + 1) (by omega)) (fun c p1 h1 h2 h3 => ?_)
        have hb1 := sk_b (T := T) h2
        split
        · next h5 =>
          have := (sg_b h5).1
          exact ⟨by show c.length + p ≤ _; omega, by omega, h3⟩
        · exact hb1.2
      · exact gd_plain hp
/-- the code, run -/
def s1 (F : Nat → Int32) (c : Nat) (st : List Int32) : Option (List Int32) := if c < 1009 then (if st.length < 32 then some ((if c < 1000 then nI c else F (c - 1000)) :: st) else none) else if c = 1105 then (match st with
  | x :: s => some ((1 - x) :: s)
  | _ => none) else (match st with
  | y :: x :: s => some (q2_joined (nI c) x y :: s)
  | _ => none)
def rn (F : Nat → Int32) : List Nat → List Int32 → Option (List Int32)
  | [], st => some st
  | c :: cs, st => Option.bind (s1 F c st) (rn F cs)
theorem rn_app {F : Nat → Int32} : ∀ (a b : List Nat) (st : List Int32), rn F (a ++ b) st = Option.bind (rn F a st) (rn F b)
  | [], b, st => rfl
  | c :: a, b, st => by
    show Option.bind (s1 F c st) (rn F (a ++ b)) = Option.bind (Option.bind (s1 F c st) (rn F a)) (rn F b)
    cases s1 F c st with
    | none => rfl
    | some s => exact rn_app a b s
theorem rn_1 {F : Nat → Int32} {c : Nat} {st : List Int32} : rn F [c] st = s1 F c st := by
  show Option.bind (s1 F c st) (rn F []) = _
  cases s1 F c st <;> rfl
theorem rn_c {F : Nat → Int32} {c : Nat} {a : List Nat} {st : List Int32} : rn F (c :: a) st = Option.bind (s1 F c st) (rn F a) := rfl
/-- what the reference keeps while it reads -/
def ErS (B : Nat) (σ σ' : St) (e : Nat) : Prop := σ' 0 12 = nI e ∧ (∀ i, i ≠ 0 → σ' i = σ i) ∧ (∀ k, k ≠ 11 → k ≠ 12 → k ≠ 13 → σ' 0 k = σ 0 k) ∧ ∃ q, q ≤ B ∧ σ' 0 11 = nI q
def FcS (F : Nat → Int32) (σ : St) : Prop := (∀ j, j < 7 → σ 6 j = F j) ∧ (∃ q, σ 0 15 = b2i q ∧ F 7 = b2i q) ∧ ∃ q, σ 0 16 = b2i q ∧ F 8 = b2i q
theorem FcS.to {F : Nat → Int32} {σ σ' : St} (h : FcS F σ) (e : σ' 6 = σ 6) (e15 : σ' 0 15 = σ 0 15) (e16 : σ' 0 16 = σ 0 16) : FcS F σ' := by
  obtain ⟨h1, ⟨q, h2, h3⟩, r, h4, h5⟩ := h
  exact ⟨fun j hj => by rw [e]; exact h1 j hj, ⟨q, by rw [e15]; exact h2, h3⟩, r, by rw [e16]; exact h4, h5⟩
def RfI (F : Nat → Int32) (H : Nat) (σ : St) (r : PR) (res : Option (Int32 × St)) : Prop := match r with
  | .inl e => ∃ x σ', res = some (x, σ') ∧ ErS 400 σ σ' e
  | .inr (c, p1) => ∃ x, res = some (x, up σ 0 11 (nI p1)) ∧ ∀ st : List Int32, st.length + H ≤ 32 → rn F c st = some (x :: st)
def RfB (F : Nat → Int32) (H B : Nat) (σ : St) (r : PR) (res : Option (Bool × St)) : Prop := match r with
  | .inl e => ∃ x σ', res = some (x, σ') ∧ ErS B σ σ' e
  | .inr (c, p1) => ∃ x, res = some (x, up σ 0 11 (nI p1)) ∧ ∀ st : List Int32, st.length + H ≤ 32 → rn F c st = some (b2i x :: st)
theorem er_up {σ : St} {q e : Nat} (hq : q ≤ 400) : ErS 400 σ (up (up σ 0 11 (nI q)) 0 12 (nI e)) e := ⟨up_at, fun i hi => by rw [up_pl hi, up_pl hi], fun k h1 h2 h3 => by rw [up_off h2, up_off h1], q, hq, by rw [up_off (by decide), up_at]⟩
theorem ErS.mo {B B' : Nat} {σ σ' : St} {e : Nat} (h : ErS B σ σ' e) (hB : B ≤ B') : ErS B' σ σ' e := by
  obtain ⟨h1, h2, h3, q, h4, h5⟩ := h
  exact ⟨h1, h2, h3, q, by omega, h5⟩
theorem ErS.no {B : Nat} {σ σ' : St} {e : Nat} (h : ErS B σ σ' e) (he : e < 1000) : ¬ σ' 0 12 = -1 := by
  rw [h.1]
  exact nI_m1 (by omega)
theorem part12 {T : TxT} {N p : Nat} {σ : St} {F : Nat → Int32} (h : PM T N σ p) (h12 : σ 0 12 = -1) (hF : FcS F σ) : RfI F 1 σ (partP T N p) (q12_part σ) := by
  have hb := sk_b (T := T) h.2.1
  have hN := h.1.1
  have hP := h.to hb.2
  have h12' : up σ 0 11 (nI (sk T N p)) 0 12 = -1 := by rw [up_off (by decide)]; exact h12
  unfold q12_part
  rw [if_neg (not_not_intro h12), skip_ok h]
  simp only [Option.bind_some]
  rw [up_at, hP.1.2.2]
  have hsk : sk T N (sk T N p) = sk T N p := sk_sk h.2.1
  have hpush : ∀ c (x : Int32), c < 1007 → x = (if c < 1000 then nI c else F (c - 1000)) → ∀ st : List Int32, st.length + 1 ≤ 32 → rn F [c] st = some (x :: st) := fun c x hc hx st hst => by
    rw [rn_1]
    unfold s1
    rw [if_pos (by omega), if_pos (by omega), hx]
  by_cases hd : kd T N (sk T N p) = 2
  · have hl : sk T N p < N := by
      unfold kd at hd
      split at hd
      · assumption
      · omega
    have hk : kdI (T (sk T N p)) = 2 := by unfold kd at hd; rw [if_pos hl] at hd; exact hd
    have e1 : q12_isIn (T (sk T N p)) 48 57 = true := by
      unfold q12_isIn
      exact decide_eq_true ((kdI_2 _).mp hk)
    rw [if_pos (nI_lt hl (by omega)), letter_ok hP.1 hl]
    simp only [Option.bind_some]
    rw [if_pos e1]
    simp only [Option.bind_some, if_true]
    rcases fig12 (H := 999) hP h12' with ⟨v, hv, ev⟩ | ⟨hv, x, e, he, ev⟩
    · rw [hsk] at hv ev
      have hvb := nm_b hv
      have hpc : pcode T N (sk T N p) = some v := by unfold pcode; rw [hv]
      unfold partP
      rw [hpc, ev]
      refine ⟨nI v, by rw [up_up]; rfl, hpush v _ (by omega) (by rw [if_pos (by omega)])⟩
    · rw [hsk] at hv ev
      have hnw : ∀ w, wd T N (sk T N p) w = false := fun w => by
        unfold wd
        rw [decide_eq_false (by omega), Bool.false_and]
      have hpc : pcode T N (sk T N p) = none := by
        unfold pcode
        rw [hv]
        dsimp only
        rw [hnw, hnw, hnw, hnw, hnw, hnw, hnw]
        rfl
      unfold partP
      rw [hpc, ev]
      exact ⟨x, _, rfl, by rw [up_up]; exact er_up (by omega)⟩
  · have hno : (if nI (sk T N p) < nI N then (Option.bind (q12_letter (up σ 0 11 (nI (sk T N p))) (nI (sk T N p))) fun x12_ => if q12_isIn x12_ 48 57 = true then (some true) else (some false)) else (some false)) = some false := by
      by_cases hl : sk T N p < N
      · have hk : ¬ kdI (T (sk T N p)) = 2 := by unfold kd at hd; rw [if_pos hl] at hd; exact hd
        rw [if_pos (nI_lt hl (by omega)), letter_ok hP.1 hl]
        simp only [Option.bind_some]
        rw [if_neg (show ¬ q12_isIn (T (sk T N p)) 48 57 = true from fun q => hk ((kdI_2 _).mpr (of_decide_eq_true q)))]
      · rw [if_neg (fun q => hl ((nI_ltI (by omega) (by omega)).mp q))]
    rw [hno]
    simp only [Option.bind_some, Bool.false_eq_true, if_false]
    have hnm : nm T N (sk T N p) 999 = none := by
      unfold nm
      rw [if_neg (fun q => hd q.1)]
    unfold partP pcode
    rw [hnm]
    dsimp only
    have hs := fun (w : Nat) (hw : w < 46) => has12 (w := w) hP hw
    rw [hsk] at hs
    have hF6 : ∀ j, j < 7 → ag (up σ 0 11 (nI (te T N (sk T N p)))) 6 7 (nI j) = some (F j) := fun j hj => by rw [ag_nI (k := j) rfl (by omega) (by decide), up_pl (by decide), hF.1 j hj]
    have fin1 : ∀ j w, j < 7 → wd T N (sk T N p) w = true → RfI F 1 σ (.inr ([1000 + j], te T N (sk T N p))) (if nI j = (-1) then (Option.bind (q12_wrong (up σ 0 11 (nI (te T N (sk T N p)))) (up σ 0 11 (nI (te T N (sk T N p))) 0 11)) fun x85_ => some (0, x85_)) else Option.bind (ag (up σ 0 11 (nI (te T N (sk T N p)))) 6 7 (nI j)) fun x87_ => some (x87_, up σ 0 11 (nI (te T N (sk T N p))))) := fun j w hj _ => by
      rw [if_neg (nI_m1 (by omega)), hF6 j hj]
      exact ⟨F j, rfl, hpush _ _ (by omega) (by rw [if_neg (by omega), show 1000 + j - 1000 = j from by omega])⟩
    rw [hs 26 (by decide)]
    simp only [Option.bind_some]
    by_cases c0 : wd T N (sk T N p) 26 = true
    · rw [c0]
      simp only [if_true, Option.bind_some]
      rw [up_up]
      exact fin1 0 26 (by omega) c0
    rw [Bool.not_eq_true _ |>.mp c0]
    simp only [Bool.false_eq_true, if_false, Option.bind_some]
    rw [up_up, hs 27 (by decide)]
    simp only [Option.bind_some]
    by_cases c1 : wd T N (sk T N p) 27 = true
    · rw [c1]
      simp only [if_true, Option.bind_some]
      rw [up_up]
      exact fin1 1 27 (by omega) c1
    rw [Bool.not_eq_true _ |>.mp c1]
    simp only [Bool.false_eq_true, if_false, Option.bind_some]
    rw [up_up, hs 7 (by decide)]
    simp only [Option.bind_some]
    by_cases c2 : wd T N (sk T N p) 7 = true
    · rw [c2]
      simp only [if_true, Option.bind_some]
      rw [up_up]
      exact fin1 2 7 (by omega) c2
    rw [Bool.not_eq_true _ |>.mp c2]
    simp only [Bool.false_eq_true, if_false, Option.bind_some]
    rw [up_up, hs 1 (by decide)]
    simp only [Option.bind_some]
    by_cases c3 : wd T N (sk T N p) 1 = true
    · rw [c3]
      simp only [if_true, Option.bind_some]
      rw [up_up]
      exact fin1 3 1 (by omega) c3
    rw [Bool.not_eq_true _ |>.mp c3]
    simp only [Bool.false_eq_true, if_false, Option.bind_some]
    rw [up_up, hs 28 (by decide)]
    simp only [Option.bind_some]
    by_cases c4 : wd T N (sk T N p) 28 = true
    · rw [c4]
      simp only [if_true, Option.bind_some]
      rw [up_up]
      exact fin1 4 28 (by omega) c4
    rw [Bool.not_eq_true _ |>.mp c4]
    simp only [Bool.false_eq_true, if_false, Option.bind_some]
    rw [up_up, hs 29 (by decide)]
    simp only [Option.bind_some]
    by_cases c5 : wd T N (sk T N p) 29 = true
    · rw [c5]
      simp only [if_true, Option.bind_some]
      rw [up_up]
      exact fin1 5 29 (by omega) c5
    rw [Bool.not_eq_true _ |>.mp c5]
    simp only [Bool.false_eq_true, if_false, Option.bind_some]
    rw [up_up, hs 5 (by decide)]
    simp only [Option.bind_some]
    by_cases c6 : wd T N (sk T N p) 5 = true
    · rw [c6]
      simp only [if_true, Option.bind_some]
      rw [up_up]
      exact fin1 6 5 (by omega) c6
    rw [Bool.not_eq_true _ |>.mp c6]
    simp only [Bool.false_eq_true, if_false, Option.bind_some]
    rw [up_up, if_pos trivial, wrong_ok h12', up_at]
    exact ⟨0, _, rfl, er_up (by omega)⟩

/-! LAYER 2: THE RELATION OF THE LAW -/
def cT (t : TxT) (N : Nat) : TxT := fun k => if k < N then t k else 0
theorem cT_in {t : TxT} {N k : Nat} (h : k < N) : cT t N k = t k := if_pos h
theorem cT_cg {t t' : TxT} {N : Nat} (h : ∀ k, k < N → t' k = t k) : cT t' N = cT t N := by
  funext k
  unfold cT
  by_cases hk : k < N
  · rw [if_pos hk, if_pos hk, h k hk]
  · rw [if_neg hk, if_neg hk]
def LRx : LRT := fun a b c x y t => (x = -1 ∧ b = -1) ∨ ∃ N ls, N ≤ 400 ∧ y = nI N ∧ lawP (cT t N) N = .inr ls ∧ x = nI ls.length ∧ b = nI ls.length ∧ a = nI (cds ls).length ∧ (cds ls).length ≤ 400 ∧ ∀ k, k < (cds ls).length → c k = nI (ofL (cds ls) k)
theorem LRx_ok : LRok LRx := fun {a b c c' x y t t'} h hc ht => by
  rcases h with h | ⟨N, ls, h1, h2, h3, h4, h5, h6, h7, h8⟩
  · exact Or.inl h
  · refine Or.inr ⟨N, ls, h1, h2, ?_, h4, h5, h6, h7, fun k hk => by rw [hc k (by omega)]; exact h8 k hk⟩
    rw [cT_cg (fun k hk => ht k (by omega))]
    exact h3
theorem LRx_b {a b : Int32} {c : Nat → Int32} {x y : Int32} {t : Nat → Int32} (h : LRx a b c x y t) : b = x := by
  rcases h with ⟨h1, h2⟩ | ⟨N, ls, -, -, -, h4, h5, -⟩
  · rw [h1, h2]
  · rw [h4, h5]
/-- what lines there are -/
theorem lns_in {T : TxT} {N : Nat} : ∀ (k p : Nat) (ls : List (List Nat × Nat)), p ≤ N → lnsP T N k p = .inr ls → ls.length ≤ k ∧ (∀ l, l ∈ ls → (2000 ≤ l.2 ∧ l.2 ≤ 4000) ∧ ∃ q p1, q ≤ N ∧ lineP T N q = .inr (l, p1)) ∧ (cds ls).length + p ≤ N
  | 0, p, ls, hp, h => by unfold lnsP at h; cases h
  | k + 1, p, ls, hp, h => by
    unfold lnsP at h
    have hg := gd_line (T := T) (N := N) (p := p) hp
    cases hr : lineP T N p with
    | inl e => rw [hr] at h; cases h
    | inr v =>
      obtain ⟨l, p1⟩ := v
      rw [hr] at h hg
      have hg1 : l.1.length + 1 + p ≤ p1 := hg.1
      have hp1 : p1 ≤ N := hg.2.1
      have hl2 : 2000 ≤ l.2 ∧ l.2 ≤ 4000 := hg.2.2
      have hb1 := sk_b (T := T) hp1
      have hcd : ∀ ls, (cds (l :: ls)).length = l.1.length + 1 + (cds ls).length := fun ls => by
        unfold cds
        rw [List.flatMap_cons, List.length_append, List.length_append]
        rfl
      dsimp only at h
      split at h
      · cases h
        refine ⟨by show 1 ≤ k + 1; omega, fun l' hl' => ?_, ?_⟩
        · rw [List.mem_singleton.mp hl']
          exact ⟨hl2, p, p1, hp, hr⟩
        · rw [hcd]
          show l.1.length + 1 + 0 + p ≤ N
          omega
      · split at h
        · next hs =>
          have hlt := (sg_b hs).1
          cases hr2 : lnsP T N k (sk T N p1 + 1) with
          | inl e => rw [hr2] at h; cases h
          | inr ls2 =>
            rw [hr2] at h
            cases h
            obtain ⟨a1, a2, a3⟩ := lns_in k (sk T N p1 + 1) ls2 (by omega) hr2
            refine ⟨by show ls2.length + 1 ≤ k + 1; omega, fun l' hl' => ?_, ?_⟩
            · rcases List.mem_cons.mp hl' with rfl | hm
              · exact ⟨hl2, p, p1, hp, hr⟩
              · exact a2 l' hm
            · rw [hcd]
              omega
        · cases h
theorem law_in {T : TxT} {N : Nat} {ls : List (List Nat × Nat)} (h : lawP T N = .inr ls) : ls.length ≤ 12 ∧ (∀ l, l ∈ ls → (2000 ≤ l.2 ∧ l.2 ≤ 4000) ∧ ∃ q p1, q ≤ N ∧ lineP T N q = .inr (l, p1)) ∧ (cds ls).length ≤ N := by
  unfold lawP at h
  split at h
  · cases h
    exact ⟨by decide, fun l hl => absurd hl List.not_mem_nil, Nat.zero_le _⟩
  · obtain ⟨a1, a2, a3⟩ := lns_in 12 0 ls (Nat.zero_le _) h
    exact ⟨a1, a2, by omega⟩
/-- a store to read in -/
def dmS (T : TxT) (N p : Nat) (F : Nat → Int32) : St := fun i k => if i = 5 then T k else if i = 6 then F k else if i = 0 then (if k = 9 then -1 else if k = 10 then nI N else if k = 11 then nI p else if k = 12 then -1 else if k = 13 then 0 else if k = 15 then F 7 else if k = 16 then F 8 else 0) else 0
def FB (F : Nat → Int32) : Prop := (∃ q, F 7 = b2i q) ∧ ∃ q, F 8 = b2i q
theorem rn_ex {T : TxT} {N q p1 : Nat} {l : List Nat × Nat} {F : Nat → Int32} (hF : FB F) (hN : N ≤ 400) (hq : q ≤ N) (h : lineP T N q = .inr (l, p1)) : ∃ x, rn F l.1 [] = some [b2i x] := by
  have hif : ∀ (L p : Nat), p ≤ N → ∀ l p1, ifP T N L p = .inr (l, p1) → ∃ x, rn F l.1 [] = some [b2i x] := fun L p hp l p1 hi => by
    have hb := sk_b (T := T) hp
    unfold ifP at hi
    split at hi
    · next hw =>
      have hl := wd_b hw (by decide) hb.2
      have hA := at12 (T := T) (N := N) (F := F) 6 0 (by omega)
      have hs := sm12 (gd_at 6) hA (dmS T N (te T N (sk T N p)) F) (te T N (sk T N p)) ⟨⟨hN, Or.inl ⟨rfl, fun k _ => rfl⟩, rfl⟩, hl.2.1, rfl⟩ rfl ⟨fun j _ => rfl, by obtain ⟨q, hq⟩ := hF.1; exact ⟨q, hq, hq⟩, by obtain ⟨q, hq⟩ := hF.2; exact ⟨q, hq, hq⟩⟩ rfl
      cases hr : smP T N (atP T N 6) (te T N (sk T N p)) with
      | inl e => rw [hr] at hi; cases hi
      | inr v =>
        obtain ⟨c, p2⟩ := v
        rw [hr] at hi hs
        cases hi
        obtain ⟨x, -, e2⟩ := hs
        exact ⟨x, e2 [] (by decide)⟩
    · cases hi
      refine ⟨true, ?_⟩
      rw [rn_1]
      unfold s1
      rw [if_pos (by omega), if_pos (by decide), if_pos (by omega)]
      rfl
  have hb := sk_b (T := T) hq
  unfold lineP at h
  have hnum : ∀ (w K : Nat), wd T N (sk T N q) w = true → w < 46 → (match nm T N (sk T N (te T N (sk T N q))) 20 with | none => .inl (sk T N (te T N (sk T N q))) | some v => ifP T N (K + v) (te T N (sk T N (te T N (sk T N q))))) = (.inr (l, p1) : LnR) → ∃ x, rn F l.1 [] = some [b2i x] := fun w K hw hw2 hh => by
    have hl := wd_b hw hw2 hb.2
    have hb2 := sk_b (T := T) hl.2.1
    have ht2 := te_b (T := T) hb2.2
    cases hn : nm T N (sk T N (te T N (sk T N q))) 20 with
    | none => rw [hn] at hh; cases hh
    | some v => rw [hn] at hh; exact hif _ _ ht2.2.1 l p1 hh
  split at h
  · next hw => exact hnum 19 2000 hw (by decide) h
  · split at h
    · next hw => exact hnum 20 3000 hw (by decide) h
    · split at h
      · next hw => exact hif _ _ (wd_b hw (by decide) hb.2).2.1 l p1 h
      · cases h
/-! the code is run by the class -/
def wgB (th : Nat) (rec50_ : Int32 → Int32 → St → Option (Int32 × Int32 × St)) (top53_ : Int32) (i54_ : Int32) (σ55_ : St) : Option (Int32 × Int32 × St) :=
  if (i54_ < (σ55_ th 3)) ∧ (i54_ < 412) then
  Option.bind (ag σ55_ (th + 1) 412 i54_) fun x63_ =>
  Option.bind (if (x63_ < 1009) ∧ (top53_ < 32) then (Option.bind (if x63_ < 1000 then (some x63_) else (Option.bind (ag σ55_ (th + 3) 9 (x63_ - 1000)) fun x79_ =>
  some x79_)) fun x73_ =>
  Option.bind (sa σ55_ (th + 2) 32 top53_ x73_) fun σ82_ =>
  some (top53_ + 1, σ82_)) else (Option.bind (if 2000 ≤ x63_ then (Option.bind (Option.bind (if 0 < top53_ then (Option.bind (ag σ55_ (th + 2) 32 (top53_ - 1)) fun x101_ =>
  if x101_ = 1 then (some true) else (some false)) else (some false)) fun t98_ =>
  if t98_ = true then (Option.bind (q2_hold σ55_ th x63_) fun x105_ =>
  some (x105_)) else (some (σ55_))) fun y93_ =>
  some ((0 : Int32), y93_)) else (Option.bind (if (x63_ = 1105) ∧ (0 < top53_) then (Option.bind (ag σ55_ (th + 2) 32 (top53_ - 1)) fun x115_ =>
  Option.bind (sa σ55_ (th + 2) 32 (top53_ - 1) (1 - x115_)) fun σ117_ =>
  some (top53_, σ117_)) else (Option.bind (if 1 < top53_ then (Option.bind (ag σ55_ (th + 2) 32 ((top53_ + (-1)) - 1)) fun x128_ =>
  Option.bind (ag σ55_ (th + 2) 32 (top53_ + (-1))) fun x130_ =>
  Option.bind (sa σ55_ (th + 2) 32 ((top53_ + (-1)) - 1) (q2_joined x63_ x128_ x130_)) fun σ132_ =>
  some (top53_ + (-1), σ132_)) else (some (top53_, σ55_))) fun y119_ =>
  some (y119_.1, y119_.2))) fun y107_ =>
  some (y107_.1, y107_.2))) fun y86_ =>
  some (y86_.1, y86_.2))) fun y65_ =>
  rec50_ y65_.1 (i54_ + 1) y65_.2
  else (some (top53_, i54_, σ55_))
/-- the state while code is run -/
def WS (s0 : St) (F : Nat → Int32) (code : List Nat) (st : List Int32) (w : St) : Prop := w 32 3 = nI code.length ∧ (∀ k, k < code.length → w 33 k = nI (ofL code k)) ∧ (∀ j, j < 9 → w 35 j = F j) ∧ (∀ j, j < st.length → w 34 (st.length - 1 - j) = st.getD j 0) ∧ (∀ i, i ≠ 32 → i ≠ 34 → w i = s0 i) ∧ ∀ k, k ≠ 5 → k ≠ 6 → w 32 k = s0 32 k
theorem wg_1 {s0 : St} {F : Nat → Int32} {code : List Nat} {st st' : List Int32} {w : St} {i c : Nat} {rec : Int32 → Int32 → St → Option (Int32 × Int32 × St)} {Q : Int32 × Int32 × St → Prop} (h : WS s0 F code st w) (hl : code.length ≤ 400) (hi : i < code.length) (hc : ofL code i = c) (hc2 : c < 2000) (hst : st.length ≤ 32) (hr : s1 F c st = some st') (k : ∀ w', WS s0 F code st' w' → w' 32 5 = w 32 5 → w' 32 6 = w 32 6 → Wo (rec (nI st'.length) (nI (i + 1)) w') Q) : Wo (wgB 32 rec (nI st.length) (nI i) w) Q := by
  obtain ⟨h1, h2, h3, h4, h5, h6⟩ := h
  unfold wgB
  rw [h1, if_pos ⟨nI_lt hi (by omega), (nI_lt (b := 412) (by omega) (by decide) : nI i < 412)⟩]
  show Wo (Option.bind (ag w 33 412 (nI i)) _) Q
  rw [ag_nI (k := i) rfl (by omega) (by decide), h2 i hi, hc]
  simp only [Option.bind_some]
  have e9 : nI c < 1009 ↔ c < 1009 := nI_ltI (b := 1009) (by omega) (by decide)
  have e0 : nI c < 1000 ↔ c < 1000 := nI_ltI (b := 1000) (by omega) (by decide)
  have e2 : ¬ (2000 : Int32) ≤ nI c := Int32.not_le.mpr (nI_lt (b := 2000) hc2 (by decide))
  have e5 : nI c = 1105 ↔ c = 1105 := nI_eq (b := 1105) (by omega) (by decide)
  have hput : ∀ (j : Nat) (x : Int32) (st2 : List Int32), (∀ q, q < st2.length → up w 34 j x 34 (st2.length - 1 - q) = st2.getD q 0) → WS s0 F code st2 (up w 34 j x) := fun j x st2 hq => ⟨by rw [up_pl (by decide)]; exact h1, fun k hk => by rw [up_pl (by decide)]; exact h2 k hk, fun k hk => by rw [up_pl (by decide)]; exact h3 k hk, hq, fun i i1 i2 => by rw [up_pl i2]; exact h5 i i1 i2, fun k k1 k2 => by rw [up_pl (by decide)]; exact h6 k k1 k2⟩
  unfold s1 at hr
  by_cases c9 : c < 1009
  · rw [if_pos c9] at hr
    by_cases c32 : st.length < 32
    · rw [if_pos c32] at hr
      have e32 : nI st.length < 32 := nI_lt (b := 32) c32 (by decide)
      rw [if_pos ⟨e9.mpr c9, e32⟩]
      have hval : (if nI c < 1000 then (some (nI c)) else (Option.bind (ag w (32 + 3) 9 (nI c - 1000)) fun x79_ => some x79_)) = some (if c < 1000 then nI c else F (c - 1000)) := by
        by_cases c0 : c < 1000
        · rw [if_pos (e0.mpr c0), if_pos c0]
        · rw [if_neg (fun q => c0 (e0.mp q)), if_neg c0, show (1000 : Int32) = nI 1000 from rfl, pk_sub (by omega)]
          show Option.bind (ag w 35 9 _) _ = _
          rw [ag_nI (k := c - 1000) rfl (by omega) (by decide), h3 _ (by omega)]
          rfl
      rw [hval]
      simp only [Option.bind_some]
      show Wo (Option.bind (Option.bind (sa w 34 32 (nI st.length) _) _) _) Q
      rw [sa_nI (k := st.length) rfl c32 (by decide)]
      simp only [Option.bind_some]
      cases hr
      rw [nI_1, nI_1]
      refine k _ (hput _ _ _ (fun q hq => ?_)) (by rw [up_pl (by decide)]) (by rw [up_pl (by decide)])
      have hq : q < st.length + 1 := hq
      show up w 34 st.length _ 34 (st.length + 1 - 1 - q) = _
      cases q with
      | zero => rw [show st.length + 1 - 1 - 0 = st.length from by omega, up_at]; rfl
      | succ q =>
        rw [show st.length + 1 - 1 - (q + 1) = st.length - 1 - q from by omega, up_off (by omega)]
        exact h4 q (by omega)
    · rw [if_neg c32] at hr
      cases hr
  · rw [if_neg c9] at hr
    rw [if_neg (fun q => c9 (e9.mp q.1)), if_neg e2]
    by_cases c5 : c = 1105
    · rw [if_pos c5] at hr
      cases st with
      | nil => cases hr
      | cons x st =>
        cases hr
        have hx : w 34 st.length = x := by
          have := h4 0 (by show 0 < st.length + 1; omega)
          rw [show (x :: st).length - 1 - 0 = st.length from rfl] at this
          exact this
        have hst : st.length + 1 ≤ 32 := hst
        have e6 : nI (x :: st).length - 1 = nI st.length := nI_pred st.length
        rw [if_pos ⟨e5.mpr c5, (nI_lt (a := 0) (show 0 < (x :: st).length by show 0 < st.length + 1; omega) (by show st.length + 1 < _; omega) : (0 : Int32) < nI (x :: st).length)⟩, e6]
        show Wo (Option.bind (Option.bind (Option.bind (Option.bind (ag w 34 32 (nI st.length)) _) _) _) _) Q
        rw [ag_nI (k := st.length) rfl (by omega) (by decide), hx]
        simp only [Option.bind_some]
        show Wo (Option.bind (Option.bind (Option.bind (Option.bind (sa w 34 32 (nI st.length) _) _) _) _) _) Q
        rw [sa_nI (k := st.length) rfl (by omega) (by decide)]
        simp only [Option.bind_some]
        rw [nI_1]
        refine k _ (hput _ _ _ (fun q hq => ?_)) (by rw [up_pl (by decide)]) (by rw [up_pl (by decide)])
        show up w 34 st.length _ 34 (st.length + 1 - 1 - q) = _
        cases q with
        | zero => rw [show st.length + 1 - 1 - 0 = st.length from by omega, up_at]; rfl
        | succ q =>
          have hq : q + 1 < st.length + 1 := hq
          rw [show st.length + 1 - 1 - (q + 1) = st.length - 1 - q from by omega, up_off (by omega)]
          have := h4 (q + 1) (by show q + 1 < st.length + 1; omega)
          rw [show (x :: st).length - 1 - (q + 1) = st.length - 1 - q from by show st.length + 1 - 1 - (q + 1) = _; omega] at this
          exact this
    · rw [if_neg c5] at hr
      rw [if_neg (fun q => c5 (e5.mp q.1))]
      match st, hr, h4, hst with
      | y :: x :: st, hr, h4, hst =>
        cases hr
        have hst : st.length + 2 ≤ 32 := hst
        have hy : w 34 (st.length + 1) = y := h4 0 (by show 0 < st.length + 2; omega)
        have hx : w 34 st.length = x := h4 1 (by show 1 < st.length + 2; omega)
        have e6 : nI (y :: x :: st).length + (-1) = nI (st.length + 1) := by
          rw [← Int32.sub_eq_add_neg]
          exact nI_pred (st.length + 1)
        rw [if_pos (show (1 : Int32) < nI (y :: x :: st).length from nI_lt (a := 1) (show 1 < (y :: x :: st).length by show 1 < st.length + 2; omega) (by show st.length + 2 < _; omega)), e6, nI_pred]
        show Wo (Option.bind (Option.bind (Option.bind (Option.bind (Option.bind (ag w 34 32 (nI st.length)) _) _) _) _) _) Q
        rw [ag_nI (k := st.length) rfl (by omega) (by decide), hx]
        simp only [Option.bind_some]
        show Wo (Option.bind (Option.bind (Option.bind (Option.bind (Option.bind (ag w 34 32 (nI (st.length + 1))) _) _) _) _) _) Q
        rw [ag_nI (k := st.length + 1) rfl (by omega) (by decide), hy]
        simp only [Option.bind_some]
        show Wo (Option.bind (Option.bind (Option.bind (Option.bind (Option.bind (sa w 34 32 (nI st.length) _) _) _) _) _) _) Q
        rw [sa_nI (k := st.length) rfl (by omega) (by decide)]
        simp only [Option.bind_some]
        rw [nI_1]
        refine k _ (hput _ _ _ (fun q hq => ?_)) (by rw [up_pl (by decide)]) (by rw [up_pl (by decide)])
        have hq : q < st.length + 1 := hq
        show up w 34 st.length _ 34 (st.length + 1 - 1 - q) = _
        cases q with
        | zero => rw [show st.length + 1 - 1 - 0 = st.length from by omega, up_at]; rfl
        | succ q =>
          rw [show st.length + 1 - 1 - (q + 1) = st.length - 1 - q from by omega, up_off (by omega)]
          have := h4 (q + 2) (by show q + 2 < st.length + 2; omega)
          rw [show (y :: x :: st).length - 1 - (q + 2) = st.length - 1 - q from by show st.length + 2 - 1 - (q + 2) = _; omega] at this
          exact this

/-! LAYER 2: THE LAW, READ BY THE CLASS: CODE AND WAITING SIGNS -/
/-- what stands in code and waits -/
def YC (T : TxT) (N : Nat) (s : St) (K : List Nat) (d : Nat) (out : List Nat) (b : Nat) : Prop := TK T N s b ∧ s 36 3 = nI out.length ∧ (∀ k, k < out.length → s 37 k = nI (ofL out k)) ∧ s 3 4 = nI K.length ∧ (∀ j, j < K.length → s 4 (K.length - 1 - j) = nI (ofL K j)) ∧ s 3 5 = nI d
/-- what the reading of a law leaves alone -/
def Fy (s s' : St) : Prop := ∀ i, i ≠ 1 → i ≠ 3 → i ≠ 4 → i ≠ 36 → i ≠ 37 → s' i = s i
theorem Fy.rf {s : St} : Fy s s := fun _ _ _ _ _ _ => rfl
theorem Fy.tr {s s1 s2 : St} (h : Fy s s1) (h' : Fy s1 s2) : Fy s s2 := fun i a b c d e => (h' i a b c d e).trans (h i a b c d e)
theorem ofL_c {x k : Nat} {l : List Nat} : ofL (x :: l) (k + 1) = ofL l k := rfl
theorem ofL_0 {x : Nat} {l : List Nat} : ofL (x :: l) 0 = x := rfl
theorem ofL_app1 {l l' : List Nat} {k : Nat} (h : k < l.length) : ofL (l ++ l') k = ofL l k := by
  show ((l ++ l')[k]?).getD 0 = (l[k]?).getD 0
  rw [List.getElem?_append_left h]
theorem ofL_app2 {l l' : List Nat} {k : Nat} : ofL (l ++ l') (l.length + k) = ofL l' k := by
  show ((l ++ l')[l.length + k]?).getD 0 = (l'[k]?).getD 0
  rw [List.getElem?_append_right (by omega), Nat.add_sub_cancel_left]
theorem emit_ok {T : TxT} {N d b c : Nat} {s : St} {K out : List Nat} (h : YC T N s K d out b) (hl : out.length < 412) : Wo (q2_emit s 36 (nI c)) (fun s' => YC T N s' K d (out ++ [c]) b ∧ Fy s s' ∧ s' 36 4 = s 36 4 ∧ s' 3 = s 3 ∧ s' 4 = s 4 ∧ s' 1 = s 1) := by
  obtain ⟨h1, h2, h3, h4, h5, h6⟩ := h
  unfold q2_emit
  dsimp only [lt]
  rw [h2, if_pos (show nI out.length < 412 from nI_lt (b := 412) hl (by decide)), sa_nI (k := out.length) rfl hl (by decide)]
  simp only [Option.bind_some]
  refine wo_some ⟨⟨h1.mv (by rw [up_pl (by decide), up_pl (by decide)]) (by rw [up_pl (by decide), up_pl (by decide)]), ?_, fun k hk => ?_, by rw [up_pl (by decide), up_pl (by decide)]; exact h4, fun j hj => by rw [up_pl (by decide), up_pl (by decide)]; exact h5 j hj, by rw [up_pl (by decide), up_pl (by decide)]; exact h6⟩, fun i i1 i3 i4 i36 i37 => by rw [up_pl i36, up_pl i37], by rw [up_off (by decide), up_pl (by decide)], by rw [up_pl (by decide), up_pl (by decide)], by rw [up_pl (by decide), up_pl (by decide)], by rw [up_pl (by decide), up_pl (by decide)]⟩
  · rw [up_at, up_pl (by decide), h2, nI_1, List.length_append]
    rfl
  · rw [up_pl (by decide)]
    rw [List.length_append] at hk
    have hk : k < out.length + 1 := hk
    by_cases hke : k = out.length
    · subst hke
      rw [up_at]
      have := ofL_app2 (l := out) (l' := [c]) (k := 0)
      rw [Nat.add_zero] at this
      rw [this]
      rfl
    · rw [up_off hke, ofL_app1 (by omega)]
      exact h3 k (by omega)
theorem wait_ok {T : TxT} {N d b c : Nat} {s : St} {K out : List Nat} (h : YC T N s K d out b) (hl : K.length < 32) : Wo (q6_waitFor s (nI c)) (fun s' => YC T N s' (c :: K) d out b ∧ Fy s s' ∧ s' 36 4 = s 36 4) := by
  obtain ⟨h1, h2, h3, h4, h5, h6⟩ := h
  unfold q6_waitFor
  dsimp only [lt]
  rw [h4, if_pos (show nI K.length < 32 from nI_lt (b := 32) hl (by decide)), sa_nI (k := K.length) rfl hl (by decide)]
  simp only [Option.bind_some]
  refine wo_some ⟨⟨h1.mv (by rw [up_pl (by decide), up_pl (by decide)]) (by rw [up_pl (by decide), up_pl (by decide)]), by rw [up_pl (by decide), up_pl (by decide)]; exact h2, fun k hk => by rw [up_pl (by decide), up_pl (by decide)]; exact h3 k hk, ?_, fun j hj => ?_, by rw [up_off (by decide), up_pl (by decide)]; exact h6⟩, fun i i1 i3 i4 i36 i37 => by rw [up_pl i3, up_pl i4], by rw [up_pl (by decide), up_pl (by decide)]⟩
  · rw [up_at, up_pl (by decide), h4, nI_1]
    rfl
  · rw [up_pl (by decide)]
    have hj : j < K.length + 1 := hj
    show up s 4 K.length (nI c) 4 (K.length + 1 - 1 - j) = nI (ofL (c :: K) j)
    cases j with
    | zero =>
      rw [show K.length + 1 - 1 - 0 = K.length from by omega, up_at]
      rfl
    | succ j =>
      rw [show K.length + 1 - 1 - (j + 1) = K.length - 1 - j from by omega, up_off (by omega), ofL_c]
      exact h5 j (by omega)
def popW (lo hi : Nat) : List Nat → List Nat → List Nat × List Nat
  | [], out => ([], out)
  | k :: K, out => if lo ≤ k ∧ k ≤ hi then popW lo hi K (out ++ [k]) else (k :: K, out)
def ewB (lo hi : Int32) (rec6_ : Int32 → St → Option (St ⊕ Int32 × St)) (i9_ : Int32) (σ10_ : St) : Option (St ⊕ Int32 × St) :=
  if 0 ≤ i9_ then
  Option.bind (Option.bind (ag σ10_ 4 32 i9_) fun x21_ =>
  if x21_ < lo then (some true) else (Option.bind (ag σ10_ 4 32 i9_) fun x24_ =>
  if hi < x24_ then (some true) else (some false))) fun t19_ =>
  if t19_ = true then (some (Sum.inl σ10_)) else
  Option.bind (ag σ10_ 4 32 i9_) fun x28_ =>
  Option.bind (q2_emit σ10_ 36 x28_) fun x30_ =>
  rec6_ (i9_ + (-1)) (up x30_ 3 4 i9_)
  else (some (Sum.inr (i9_, σ10_)))
def ewE (y : St ⊕ Int32 × St) : Option St := Sum.elim (fun x9 => some x9) (fun y3_r => some y3_r.2) y
theorem emitW_eq {s : St} {lo hi : Int32} : q6_emitWaiting s lo hi = Option.bind (loop2 (ewB lo hi) fuelN (s 3 4 - 1) s) ewE := rfl
theorem emitW_ok {T : TxT} {N d b lo hi : Nat} (hlo : lo < 2000) (hhi : hi < 2000) : ∀ (K out : List Nat) (s : St), YC T N s K d out b → out.length + K.length ≤ 400 → K.length ≤ 31 → (∀ x, x ∈ K → x < 2000) → Wo (q6_emitWaiting s (nI lo) (nI hi)) (fun s' => YC T N s' (popW lo hi K out).1 d (popW lo hi K out).2 b ∧ Fy s s' ∧ s' 36 4 = s 36 4) := by
  intro K out s h hl hK hx
  rw [emitW_eq, h.2.2.2.1]
  have key : ∀ (K' : List Nat) (out' : List Nat) (w : St) (M : Nat), K'.length < M → YC T N w K' d out' b → out'.length + K'.length ≤ 400 → K'.length ≤ 31 → (∀ x, x ∈ K' → x < 2000) → popW lo hi K' out' = popW lo hi K out → Fy s w → w 36 4 = s 36 4 → Wo (loop2 (ewB (nI lo) (nI hi)) M (nI K'.length - 1) w) (fun y => Wo (ewE y) (fun s' => YC T N s' (popW lo hi K out).1 d (popW lo hi K out).2 b ∧ Fy s s' ∧ s' 36 4 = s 36 4)) := by
    intro K'
    induction K' with
    | nil =>
      intro out' w M hM hw _ _ _ hp hf h36
      obtain ⟨M, rfl⟩ : ∃ M', M = M' + 1 := ⟨M - 1, by have : 0 < M := hM; omega⟩
      show Wo (ewB (nI lo) (nI hi) (loop2 (ewB (nI lo) (nI hi)) M) (nI 0 - 1) w) _
      generalize loop2 (ewB (nI lo) (nI hi)) M = rec
      unfold ewB
      rw [if_neg (show ¬ (0 : Int32) ≤ nI 0 - 1 by decide)]
      refine wo_some (wo_some ?_)
      rw [← hp]
      exact ⟨hw, hf, h36⟩
    | cons x K' ih =>
      intro out' w M hM hw hl' hK' hx' hp hf h36
      have hM : K'.length + 1 < M := hM
      have hl' : out'.length + (K'.length + 1) ≤ 400 := hl'
      have hK' : K'.length + 1 ≤ 31 := hK'
      obtain ⟨M, rfl⟩ : ∃ M', M = M' + 1 := ⟨M - 1, by omega⟩
      have ex : nI (x :: K').length - 1 = nI K'.length := nI_pred K'.length
      have hag : ag w 4 32 (nI K'.length) = some (nI x) := by
        rw [ag_nI (k := K'.length) rfl (by omega) (by decide)]
        have := hw.2.2.2.2.1 0 (by show 0 < K'.length + 1; omega)
        rw [show (x :: K').length - 1 - 0 = K'.length from rfl] at this
        rw [this]
        rfl
      have hx2 := hx' x (List.mem_cons_self ..)
      rw [ex]
      show Wo (ewB (nI lo) (nI hi) (loop2 (ewB (nI lo) (nI hi)) M) (nI K'.length) w) _
      have ih' := fun (o : List Nat) (v : St) => ih o v M (by omega)
      generalize loop2 (ewB (nI lo) (nI hi)) M = rec at ih'
      unfold ewB
      rw [if_pos (show (0 : Int32) ≤ nI K'.length from Int32.not_lt.mp (nI_pos (by omega))), hag]
      simp only [Option.bind_some]
      have e1 : nI x < nI lo ↔ x < lo := nI_ltI (by omega) (by omega)
      have e2 : nI hi < nI x ↔ hi < x := nI_ltI (by omega) (by omega)
      by_cases hc : lo ≤ x ∧ x ≤ hi
      · rw [if_neg (fun q => by have := e1.mp q; omega), if_neg (fun q => by have := e2.mp q; omega)]
        simp only [Option.bind_some, Bool.false_eq_true, if_false]
        obtain ⟨v, ev, v1, v2, v3, v4, v5, v6⟩ := emit_ok (c := x) hw (by omega)
        rw [ev]
        simp only [Option.bind_some]
        have hst : YC T N (up v 3 4 (nI K'.length)) K' d (out' ++ [x]) b := by
          obtain ⟨a1, a2, a3, a4, a5, a6⟩ := v1
          refine ⟨a1.mv (up_pl (by decide)) (up_pl (by decide)), by rw [up_pl (by decide)]; exact a2, fun k hk => by rw [up_pl (by decide)]; exact a3 k hk, up_at, fun j hj => ?_, by rw [up_off (by decide)]; exact a6⟩
          rw [up_pl (by decide)]
          have := a5 (j + 1) (by show j + 1 < K'.length + 1; omega)
          rw [show (x :: K').length - 1 - (j + 1) = K'.length - 1 - j from by show K'.length + 1 - 1 - (j + 1) = _; omega] at this
          exact this
        have en : nI K'.length + -1 = nI K'.length - 1 := (Int32.sub_eq_add_neg _ _).symm
        rw [en]
        exact ih' (out' ++ [x]) (up v 3 4 (nI K'.length)) hst (by rw [List.length_append]; show out'.length + 1 + K'.length ≤ 400; omega) (by omega) (fun y hy => hx' y (List.mem_cons_of_mem _ hy)) (by rw [← hp]; show _ = (if lo ≤ x ∧ x ≤ hi then _ else _); rw [if_pos hc]) (fun i i1 i3 i4 i36 i37 => by rw [up_pl i3, v2 i i1 i3 i4 i36 i37]; exact hf i i1 i3 i4 i36 i37) (by rw [up_pl (by decide), v3]; exact h36)
      · have hpe : popW lo hi (x :: K') out' = (x :: K', out') := by
          show (if lo ≤ x ∧ x ≤ hi then _ else _) = _
          rw [if_neg hc]
        have hres : YC T N w (popW lo hi K out).1 d (popW lo hi K out).2 b ∧ Fy s w ∧ w 36 4 = s 36 4 := by
          rw [← hp, hpe]
          exact ⟨hw, hf, h36⟩
        by_cases hc1 : x < lo
        · rw [if_pos (e1.mpr hc1)]
          simp only [Option.bind_some, if_true]
          exact wo_some (wo_some hres)
        · rw [if_neg (fun q => hc1 (e1.mp q)), if_pos (e2.mpr (by omega))]
          simp only [Option.bind_some, if_true]
          exact wo_some (wo_some hres)
  exact wo_bind (key K out s fuelN (by unfold fuelN; omega) h hl hK hx rfl Fy.rf rfl)

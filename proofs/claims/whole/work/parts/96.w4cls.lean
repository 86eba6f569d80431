/-! LAYER 2: THE MACHINE AGAINST THE READING -/
abbrev nts (j : Nat) : List Nat := List.replicate j 1105
theorem nts_s (j : Nat) : nts (j + 1) = nts j ++ [1105] := List.replicate_succ'
def Bs (K : List Nat) : Prop := K = [] ∨ ∃ K', K = 1106 :: K'
def Sg (K : List Nat) : Prop := ∀ x, x ∈ K → x < 2000
theorem pop_nts {K : List Nat} (hK : ∀ K', K ≠ 1105 :: K') : ∀ (j : Nat) (o : List Nat), popW 1105 1105 (nts j ++ K) o = (K, o ++ nts j)
  | 0, o => by
    rw [show nts 0 ++ K = K from rfl, show o ++ nts 0 = o from List.append_nil _]
    cases K with
    | nil => rfl
    | cons k K' =>
      show (if 1105 ≤ k ∧ k ≤ 1105 then _ else _) = _
      rw [if_neg (fun q => hK K' (by rw [show k = 1105 from by omega]))]
  | j + 1, o => by
    show (if 1105 ≤ 1105 ∧ 1105 ≤ 1105 then popW 1105 1105 (nts j ++ K) (o ++ [1105]) else _) = _
    rw [if_pos (by omega), pop_nts hK j, List.append_assoc]
    rfl
/-- and and or that still wait -/
def P4 (pd : List Nat) : Prop := pd = [] ∨ pd = [1103] ∨ pd = [1104] ∨ pd = [1103, 1104]
theorem pop_bs {K o : List Nat} {lo hi : Nat} (h : Bs K) (hh : hi ≤ 1104) : popW lo hi K o = (K, o) := by
  rcases h with rfl | ⟨K', rfl⟩
  · rfl
  · show (if lo ≤ 1106 ∧ 1106 ≤ hi then _ else _) = _
    rw [if_neg (by omega)]
theorem pop_4 {K o pd : List Nat} (h : Bs K) (hp : P4 pd) : popW 1103 1104 (pd ++ K) o = (K, o ++ pd) := by
  rcases hp with rfl | rfl | rfl | rfl
  · rw [List.append_nil]; exact pop_bs h (by omega)
  · show popW 1103 1104 K (o ++ [1103]) = _
    exact pop_bs h (by omega)
  · show popW 1103 1104 K (o ++ [1104]) = _
    exact pop_bs h (by omega)
  · show popW 1103 1104 K (o ++ [1103] ++ [1104]) = _
    rw [pop_bs h (by omega), List.append_assoc]
    rfl
theorem pop_1 {K0 KB o pd : List Nat} (h : Bs KB) (h0 : K0 = KB ∨ K0 = 1104 :: KB) (hp : pd = [] ∨ pd = [1103]) : popW 1103 1103 (pd ++ K0) o = (K0, o ++ pd) := by
  have hb : ∀ o, popW 1103 1103 K0 o = (K0, o) := fun o => by
    rcases h0 with rfl | rfl
    · exact pop_bs h (by omega)
    · rfl
  rcases hp with rfl | rfl
  · rw [List.append_nil]; exact hb o
  · exact hb (o ++ [1103])
theorem p4_nt {K pd : List Nat} (h : Bs K) (hp : P4 pd) : ∀ K', pd ++ K ≠ 1105 :: K' := fun K' e => by
  rcases hp with rfl | rfl | rfl | rfl
  · rcases h with rfl | ⟨K2, rfl⟩ <;> cases e
  · cases e
  · cases e
  · cases e
theorem p4_l {pd : List Nat} (hp : P4 pd) : pd.length ≤ 2 ∧ Sg pd := by
  rcases hp with rfl | rfl | rfl | rfl
  · exact ⟨by decide, fun x hx => absurd hx List.not_mem_nil⟩
  · exact ⟨by decide, fun x hx => by rw [List.mem_singleton.mp hx]; omega⟩
  · exact ⟨by decide, fun x hx => by rw [List.mem_singleton.mp hx]; omega⟩
  · refine ⟨by decide, fun x hx => ?_⟩
    rcases List.mem_cons.mp hx with rfl | h
    · omega
    · rw [List.mem_singleton.mp h]; omega
/-- the bounds of a state -/
def Bd (d : Nat) (K out : List Nat) : Prop := d ≤ 6 ∧ K.length ≤ 20 ∧ Sg K ∧ out.length + K.length ≤ 400
/-- nots cannot be more than six -/
def YQ (T : TxT) (N : Nat) (s : St) (K : List Nat) (d : Nat) (out : List Nat) (b : Nat) : Prop := ∃ j o, j + d ≤ 6 ∧ out = o ++ nts j ∧ YC T N s (nts j ++ K) (d + j) o b
theorem YQ.of {T : TxT} {N d b : Nat} {s : St} {K out : List Nat} (h : YC T N s K d out b) (hd : d ≤ 6) : YQ T N s K d out b := ⟨0, out, by omega, (List.append_nil _).symm, h⟩
theorem YQ.nt {T : TxT} {N d b : Nat} {s : St} {K out : List Nat} (h : YQ T N s (1105 :: K) (d + 1) out b) : YQ T N s K d (out ++ [1105]) b := by
  obtain ⟨j, o, hj, rfl, h2⟩ := h
  refine ⟨j + 1, o, by omega, by rw [nts_s, List.append_assoc], ?_⟩
  rw [nts_s, List.append_assoc, show d + (j + 1) = d + 1 + j from by omega]
  exact h2
theorem notq_ok {T : TxT} {N d b : Nat} {s : St} {K out : List Nat} (h : YQ T N s K d out b) (hK : ∀ K', K ≠ 1105 :: K') (hB : Bd d K out) : Wo (q6_closeNots s) (fun s' => YC T N s' K d out b ∧ Fy s s' ∧ s' 36 4 = s 36 4) := by
  obtain ⟨j, o, hj, rfl, h2⟩ := h
  obtain ⟨b1, b2, b3, b4⟩ := hB
  rw [List.length_append, List.length_replicate] at b4
  unfold q6_closeNots
  dsimp only [lt]
  obtain ⟨v, ev, v1, v2, v3⟩ := emitW_ok (lo := 1105) (hi := 1105) (by omega) (by omega) (nts j ++ K) o s h2 (by rw [List.length_append, List.length_replicate]; omega) (by rw [List.length_append, List.length_replicate]; omega) (fun x hx => (List.mem_append.mp hx).elim (fun h => by rw [List.eq_of_mem_replicate h]; omega) (b3 x))
  have ev : q6_emitWaiting s 1105 1105 = some v := ev
  rw [pop_nts hK] at v1
  rw [ev]
  simp only [Option.bind_some]
  obtain ⟨a1, a2, a3, a4, a5, a6⟩ := v1
  have e4 : s 3 4 = nI (nts j ++ K).length := h2.2.2.2.1
  have a4 : v 3 4 = nI K.length := a4
  refine wo_some ⟨⟨a1.mv (up_pl (by decide)) (up_pl (by decide)), by rw [up_pl (by decide)]; exact a2, fun k hk => by rw [up_pl (by decide)]; exact a3 k hk, by rw [up_off (by decide)]; exact a4, fun i hi => by rw [up_pl (by decide)]; exact a5 i hi, ?_⟩, fun i i1 i3 i4 i36 i37 => by rw [up_pl i3]; exact v2 i i1 i3 i4 i36 i37, by rw [up_pl (by decide)]; exact v3⟩
  rw [up_at, a4, a6, e4, List.length_append, List.length_replicate, pk_sub (by omega), pk_sub (by omega)]
  congr 1
  show d + j - (j + K.length - K.length) = d
  omega
/-- no bracket is closed -/
theorem noclose {T : TxT} {N b fc cl : Nat} {s : St} {rec : Int32 → St → Option RcT} {atoms : Int32} {Q : RcT → Prop} (h : TK T N s b) (hs : sg T N b 41 = false) (hcl : cl < 100) (k : Wo (afA rec atoms s) Q) : Wo (Option.bind (Option.bind (loop2 clB (fc + 1) (nI cl) s) clX) (afA rec atoms)) Q := by
  have e : loop2 clB (fc + 1) (nI cl) s = some (.inr (nI cl, s)) := by
    show clB (loop2 clB fc) (nI cl) s = _
    generalize loop2 clB fc = r
    unfold clB
    rw [sign_ok h (by decide), hs]
    simp only [Option.bind_some, Bool.false_eq_true, if_false]
    split <;> rfl
  rw [e]
  exact k
theorem wd_sg {T : TxT} {N b w : Nat} {c : Int32} (h : wd T N b w = true) (hc : kdI c = 3) : sg T N b c = false := by
  cases hs : sg T N b c with
  | false => rfl
  | true =>
    obtain ⟨h1, h2⟩ := sg_b hs
    unfold wd at h
    rw [Bool.and_eq_true, decide_eq_true_eq] at h
    have := h.1
    unfold kd at this
    rw [if_pos h1, h2, hc] at this
    cases this
theorem wd_two {T : TxT} {N b : Nat} (h : wd T N b 31 = true) : wd T N b 30 = false := by
  cases hs : wd T N b 30 with
  | false => rfl
  | true =>
    unfold wd at h hs
    rw [Bool.and_eq_true, Bool.and_eq_true, decide_eq_true_eq, decide_eq_true_eq] at h hs
    have h1 := h.2.1
    have h2 := hs.2.1
    have a1 : wl 31 = 2 := by decide
    have a2 : wl 30 = 3 := by decide
    omega
theorem nx_and {T : TxT} {N b d fc cl : Nat} {s : St} {rec : Int32 → St → Option RcT} {atoms : Int32} {Q : RcT → Prop} {K0 KB out pd : List Nat} (hY : YQ T N s (pd ++ K0) d out b) (hB : Bd d (pd ++ K0) out) (h0 : K0 = KB ∨ K0 = 1104 :: KB) (hb : Bs KB) (hp : pd = [] ∨ pd = [1103]) (hw : wd T N b 30 = true) (hcl : cl < 100) (k : ∀ s', YC T N s' (1103 :: K0) d (out ++ pd) (sk T N (te T N b)) → Fy s s' → s' 36 4 = s 36 4 → Wo (rec (atoms + 1) s') Q) : Wo (S2 rec (fc + 1) (nI cl) atoms s) Q := by
  have hnt : ∀ K', pd ++ K0 ≠ 1105 :: K' := fun K' e => by
    rcases hp with rfl | rfl
    · rcases h0 with rfl | rfl
      · rcases hb with rfl | ⟨K2, rfl⟩ <;> cases e
      · cases e
    · cases e
  obtain ⟨v, ev, v1, v2, v3⟩ := notq_ok hY hnt hB
  obtain ⟨b1, b2, b3, b4⟩ := hB
  unfold S2
  rw [ev]
  simp only [Option.bind_some]
  refine noclose v1.1 (wd_sg hw (by decide)) hcl ?_
  unfold afA
  rw [word_ok v1.1 (by decide), hw]
  simp only [Option.bind_some, if_true]
  obtain ⟨w, ew, w1, w2, w3⟩ := emitW_ok (lo := 1103) (hi := 1103) (by omega) (by omega) (pd ++ K0) out v v1 b4 (by omega) b3
  have ew : q6_emitWaiting v 1103 1103 = some w := ew
  rw [pop_1 hb h0 hp] at w1
  rw [ew]
  simp only [Option.bind_some]
  rw [List.length_append] at b2
  obtain ⟨x, ex, x1, x2, x3⟩ := wait_ok (c := 1103) w1 (by show K0.length < 32; omega)
  have ex : q6_waitFor w 1103 = some x := ex
  rw [ex]
  simp only [Option.bind_some]
  obtain ⟨y, ey, y1, y2⟩ := adv_ok x1.1
  rw [ey]
  exact k y (x1.mv1 y1 y2) (((v2.tr w2).tr x2).tr (fy1 y2)) (by rw [y2 36 (by decide), x3, w3, v3])
theorem nx_or {T : TxT} {N b d fc cl : Nat} {s : St} {rec : Int32 → St → Option RcT} {atoms : Int32} {Q : RcT → Prop} {KB out pd : List Nat} (hY : YQ T N s (pd ++ KB) d out b) (hB : Bd d (pd ++ KB) out) (hb : Bs KB) (hp : P4 pd) (hw : wd T N b 31 = true) (hcl : cl < 100) (k : ∀ s', YC T N s' (1104 :: KB) d (out ++ pd) (sk T N (te T N b)) → Fy s s' → s' 36 4 = s 36 4 → Wo (rec (atoms + 1) s') Q) : Wo (S2 rec (fc + 1) (nI cl) atoms s) Q := by
  obtain ⟨v, ev, v1, v2, v3⟩ := notq_ok hY (p4_nt hb hp) hB
  obtain ⟨b1, b2, b3, b4⟩ := hB
  unfold S2
  rw [ev]
  simp only [Option.bind_some]
  refine noclose v1.1 (wd_sg hw (by decide)) hcl ?_
  unfold afA
  rw [word_ok v1.1 (by decide), wd_two hw]
  simp only [Option.bind_some, Bool.false_eq_true, if_false]
  rw [word_ok v1.1 (by decide), hw]
  simp only [Option.bind_some, if_true]
  obtain ⟨w, ew, w1, w2, w3⟩ := emitW_ok (lo := 1103) (hi := 1104) (by omega) (by omega) (pd ++ KB) out v v1 b4 (by omega) b3
  have ew : q6_emitWaiting v 1103 1104 = some w := ew
  rw [pop_4 hb hp] at w1
  rw [ew]
  simp only [Option.bind_some]
  rw [List.length_append] at b2
  obtain ⟨x, ex, x1, x2, x3⟩ := wait_ok (c := 1104) w1 (by show KB.length < 32; omega)
  have ex : q6_waitFor w 1104 = some x := ex
  rw [ex]
  simp only [Option.bind_some]
  obtain ⟨y, ey, y1, y2⟩ := adv_ok x1.1
  rw [ey]
  exact k y (x1.mv1 y1 y2) (((v2.tr w2).tr x2).tr (fy1 y2)) (by rw [y2 36 (by decide), x3, w3, v3])
theorem nx_cl {T : TxT} {N b d fc cl : Nat} {s : St} {rec : Int32 → St → Option RcT} {atoms : Int32} {Q : RcT → Prop} {K1 out pd : List Nat} (hY : YQ T N s (pd ++ 1106 :: K1) (d + 1) out b) (hB : Bd (d + 1) (pd ++ 1106 :: K1) out) (hp : P4 pd) (hw : sg T N b 41 = true) (hcl : cl < 6) (k : ∀ s', YC T N s' K1 d (out ++ pd) (sk T N (b + 1)) → Fy s s' → s' 36 4 = s 36 4 → Wo (S2 rec fc (nI (cl + 1)) atoms s') Q) : Wo (S2 rec (fc + 1) (nI cl) atoms s) Q := by
  have hb : Bs (1106 :: K1) := Or.inr ⟨K1, rfl⟩
  obtain ⟨v, ev, v1, v2, v3⟩ := notq_ok hY (p4_nt hb hp) hB
  obtain ⟨b1, b2, b3, b4⟩ := hB
  rw [List.length_append] at b2
  have b2 : pd.length + (K1.length + 1) ≤ 20 := b2
  unfold S2
  rw [ev]
  simp only [Option.bind_some]
  obtain ⟨w, ew, w1, w2, w3⟩ := emitW_ok (lo := 1103) (hi := 1104) (by omega) (by omega) (pd ++ 1106 :: K1) out v v1 b4 (by rw [List.length_append]; show pd.length + (K1.length + 1) ≤ 31; omega) b3
  have ew : q6_emitWaiting v 1103 1104 = some w := ew
  rw [pop_4 hb hp] at w1
  have w34 : w 3 4 = nI (K1.length + 1) := w1.2.2.2.1
  have hst : YC T N (up (up w 3 4 ((w 3 4) - 1)) 3 5 ((up w 3 4 ((w 3 4) - 1) 3 5) - 1)) K1 d (out ++ pd) b := by
    obtain ⟨a1, a2, a3, a4, a5, a6⟩ := w1
    refine ⟨a1.mv (by rw [up_pl (by decide), up_pl (by decide)]) (by rw [up_pl (by decide), up_pl (by decide)]), by rw [up_pl (by decide), up_pl (by decide)]; exact a2, fun k hk => by rw [up_pl (by decide), up_pl (by decide)]; exact a3 k hk, ?_, fun j hj => ?_, ?_⟩
    · rw [up_off (by decide), up_at, w34, nI_pred]
    · rw [up_pl (by decide), up_pl (by decide)]
      have := a5 (j + 1) (by show j + 1 < K1.length + 1; omega)
      rw [show (1106 :: K1).length - 1 - (j + 1) = K1.length - 1 - j from by show K1.length + 1 - 1 - (j + 1) = _; omega] at this
      exact this
    · rw [up_at, up_off (by decide), a6, nI_pred]
  obtain ⟨y, ey, y1, y2⟩ := adv_ok hst.1
  rw [te_sg hw (by decide)] at y1
  have e : ∀ r, clB r (nI cl) v = Option.bind (q6_closeNots y) fun x34_ => r (nI cl + 1) x34_ := fun r => by
    unfold clB
    rw [if_pos (show nI cl < 6 from nI_lt (b := 6) hcl (by decide)), sign_ok v1.1 (by decide), hw]
    simp only [Option.bind_some, if_true]
    rw [ew]
    simp only [Option.bind_some]
    rw [if_neg (show ¬ w 3 4 ≤ 0 from fun q => by
      rw [w34] at q
      exact nI_ge (a := 0) (b := K1.length + 1) (by omega) (by omega) q), ey]
    rfl
  have hk := k y (hst.mv1 y1 y2) (((v2.tr w2).tr (fun i i1 i3 i4 i36 i37 => by rw [up_pl i3, up_pl i3])).tr (fy1 y2)) (by rw [y2 36 (by decide), up_pl (by decide), up_pl (by decide), w3, v3])
  show Wo (Option.bind (Option.bind (clB (loop2 clB fc) (nI cl) v) clX) (afA rec atoms)) Q
  rw [e, nI_1]
  unfold S2 at hk
  obtain ⟨z, ez, hz⟩ := hk
  cases hq : q6_closeNots y with
  | none => rw [hq] at ez; cases ez
  | some x =>
    rw [hq] at ez
    exact ⟨z, ez, hz⟩
theorem nx_end {T : TxT} {N b d fc cl : Nat} {s : St} {rec : Int32 → St → Option RcT} {atoms : Int32} {Q : RcT → Prop} {KB out pd : List Nat} (hY : YQ T N s (pd ++ KB) d out b) (hB : Bd d (pd ++ KB) out) (hb : Bs KB) (hp : P4 pd) (h1 : wd T N b 30 = false) (h2 : wd T N b 31 = false) (h3 : sg T N b 41 = false ∨ KB = []) (hcl : cl < 100) (k : ∀ s', YC T N s' KB d (out ++ pd) b → Fy s s' → s' 36 4 = s 36 4 → Q (.inl (decide (KB.length = 0), s'))) : Wo (S2 rec (fc + 1) (nI cl) atoms s) Q := by
  obtain ⟨v, ev, v1, v2, v3⟩ := notq_ok hY (p4_nt hb hp) hB
  obtain ⟨b1, b2, b3, b4⟩ := hB
  rw [List.length_append] at b2
  have haf : ∀ (u : St) (pd' o' : List Nat), P4 pd' → o' ++ pd' = out ++ pd → YC T N u (pd' ++ KB) d o' b → o'.length + (pd' ++ KB).length ≤ 400 → (pd' ++ KB).length ≤ 31 → Sg (pd' ++ KB) → Fy s u → u 36 4 = s 36 4 → Wo (afA rec atoms u) Q := fun u pd' o' hp' ho u1 u2 u3 u4 u5 u6 => by
    unfold afA
    rw [word_ok u1.1 (by decide), h1]
    simp only [Option.bind_some, Bool.false_eq_true, if_false]
    rw [word_ok u1.1 (by decide), h2]
    simp only [Option.bind_some, Bool.false_eq_true, if_false]
    obtain ⟨w, ew, w1, w2, w3⟩ := emitW_ok (lo := 1103) (hi := 1104) (by omega) (by omega) (pd' ++ KB) o' u u1 u2 u3 u4
    have ew : q6_emitWaiting u 1103 1104 = some w := ew
    rw [pop_4 hb hp', ho] at w1
    rw [ew]
    simp only [Option.bind_some]
    have hl : KB.length < 100 := by
      rw [List.length_append] at u3
      omega
    have e0 : w 3 4 = 0 ↔ KB.length = 0 := by
      have w34 : w 3 4 = nI KB.length := w1.2.2.2.1
      rw [w34]
      exact nI_0i (by omega)
    have := k w w1 (u5.tr w2) (w3.trans u6)
    rw [show decide (KB.length = 0) = decide (w 3 4 = 0) from decide_eq_decide.mpr e0.symm] at this
    exact wo_some this
  unfold S2
  rw [ev]
  simp only [Option.bind_some]
  by_cases hs : sg T N b 41 = true
  · have hKB : KB = [] := h3.elim (fun q => by rw [q] at hs; cases hs) id
    subst hKB
    have e : Wo (loop2 clB (fc + 1) (nI cl) v) (fun y => Wo (clX y) (fun u => Wo (afA rec atoms u) Q)) := by
      show Wo (clB (loop2 clB fc) (nI cl) v) _
      generalize loop2 clB fc = r
      unfold clB
      rw [sign_ok v1.1 (by decide), hs]
      simp only [Option.bind_some, if_true]
      by_cases h6 : nI cl < 6
      · rw [if_pos h6]
        simp only [Option.bind_some, if_true]
        obtain ⟨w, ew, w1, w2, w3⟩ := emitW_ok (lo := 1103) (hi := 1104) (by omega) (by omega) (pd ++ []) out v v1 b4 (by rw [List.length_append]; show pd.length + 0 ≤ 31; omega) b3
        have ew : q6_emitWaiting v 1103 1104 = some w := ew
        rw [pop_4 hb hp] at w1
        rw [ew]
        simp only [Option.bind_some]
        rw [if_pos (show w 3 4 ≤ 0 by rw [w1.2.2.2.1]; exact Int32.le_refl _)]
        refine wo_some (wo_some (haf w [] (out ++ pd) (Or.inl rfl) (List.append_nil _) w1 ?_ (by show 0 ≤ 31; omega) (fun x hx => absurd hx List.not_mem_nil) (v2.tr w2) (w3.trans v3)))
        rw [List.length_append] at b4
        rw [List.length_append]
        show out.length + pd.length + 0 ≤ 400
        have : out.length + (pd.length + 0) ≤ 400 := b4
        omega
      · rw [if_neg h6]
        simp only [Option.bind_some, Bool.false_eq_true, if_false]
        exact wo_some (wo_some (haf v pd out hp rfl v1 b4 (by rw [List.length_append]; show pd.length + 0 ≤ 31; omega) b3 v2 v3))
    exact wo_bind (wo_bind e)
  · refine noclose v1.1 (Bool.not_eq_true _ |>.mp hs) hcl (haf v pd out hp rfl v1 b4 (by rw [List.length_append]; omega) b3 v2 v3)

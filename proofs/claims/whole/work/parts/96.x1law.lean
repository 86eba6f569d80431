/-! LAYER 2: THE LAW'S LINES IN CODE -/
def CD (s : St) (out : List Nat) : Prop := s 36 3 = nI out.length ∧ ∀ k, k < out.length → s 37 k = nI (ofL out k)
theorem CD.mv {s s' : St} {out : List Nat} (h : CD s out) (e : ∀ i, i ≠ 1 → s' i = s i) : CD s' out := ⟨by rw [e 36 (by decide)]; exact h.1, fun k hk => by rw [e 37 (by decide)]; exact h.2 k hk⟩
theorem emitD {s : St} {out : List Nat} {c : Nat} (h : CD s out) (hl : out.length < 412) : Wo (q2_emit s 36 (nI c)) (fun s' => CD s' (out ++ [c]) ∧ (∀ i, i ≠ 36 → i ≠ 37 → s' i = s i) ∧ s' 36 4 = s 36 4) := by
  unfold q2_emit
  dsimp only [lt]
  rw [h.1, if_pos (show nI out.length < 412 from nI_lt (b := 412) hl (by decide)), sa_nI (k := out.length) rfl hl (by decide)]
  simp only [Option.bind_some]
  refine wo_some ⟨⟨?_, fun k hk => ?_⟩, fun i i36 i37 => by rw [up_pl i36, up_pl i37], by rw [up_off (by decide), up_pl (by decide)]⟩
  · rw [up_at, up_pl (by decide), h.1, nI_1, List.length_append]
    rfl
  · rw [up_pl (by decide)]
    rw [List.length_append] at hk
    have hk : k < out.length + 1 := hk
    by_cases hke : k = out.length
    · subst hke
      rw [up_at]
      have := ofL_app2 (l := out) (l' := [c]) (k := 0)
      rw [Nat.add_zero] at this
      rw [this]
      rfl
    · rw [up_off hke, ofL_app1 (by omega)]
      exact h.2 k (by omega)
theorem fyD {s s' : St} (e : ∀ i, i ≠ 36 → i ≠ 37 → s' i = s i) : Fy s s' := fun i _ _ _ h5 h6 => e i h5 h6
theorem numF_ok {T : TxT} {N b : Nat} {s : St} {H : Int32} (h : TK T N s b) : Wo (q6_numberFollows s H) (fun x => x.1 = oI (nm T N (sk T N (te T N b)) H) ∧ TK T N x.2 (if nm T N (sk T N (te T N b)) H = none then sk T N (te T N b) else sk T N (te T N (sk T N (te T N b)))) ∧ ∀ i, i ≠ 1 → x.2 i = s i) := by
  unfold q6_numberFollows
  obtain ⟨v, ev, v1, v2⟩ := adv_ok h
  rw [ev]
  simp only [Option.bind_some]
  rw [num_ok v1]
  simp only [Option.bind_some]
  cases hn : nm T N (sk T N (te T N b)) H with
  | none =>
    rw [if_neg (not_not_intro (show oI none = -1 from rfl)), if_pos rfl]
    exact wo_some ⟨rfl, v1, v2⟩
  | some x =>
    have := nm_b hn
    rw [if_pos (show ¬ oI (some x) = -1 from nI_m1 (by omega)), if_neg (fun q => by cases q)]
    obtain ⟨w, ew, w1, w2⟩ := adv_ok v1
    rw [ew]
    exact wo_some ⟨rfl, w1, fun i hi => (w2 i hi).trans (v2 i hi)⟩
def LnC (T : TxT) (N : Nat) (out : List Nat) (s : St) (r : LnR) (x : Bool × St) : Prop := match r with
  | .inl e => x.1 = false ∧ TK T N x.2 e ∧ Fy s x.2
  | .inr (l, p1) => x.1 = true ∧ TK T N x.2 (sk T N p1) ∧ Fy s x.2 ∧ x.2 36 4 = s 36 4 ∧ CD x.2 (out ++ (l.1 ++ [l.2]))
theorem ifC {T : TxT} {N p L : Nat} {s : St} {out : List Nat} (hN : N ≤ 400) (hp : p ≤ N) (h : TK T N s (sk T N p)) (hD : CD s out) (hl : out.length ≤ p) : Wo (Option.bind (q8_isWord s 22) fun x48_ =>
  if ¬ (x48_ = true) then (Option.bind (q2_emit s 36 1) fun x52_ =>
  Option.bind (q2_emit x52_ 36 (nI L)) fun x60_ =>
  some (true, x60_)) else (Option.bind (q6_readCondition s) fun x56_ =>
  if ¬ (x56_.1 = true) then (some (false, x56_.2)) else
  Option.bind (q2_emit x56_.2 36 (nI L)) fun x60_ =>
  some (true, x60_))) (fun x => LnC T N out s (ifP T N L p) x) := by
  have hb := sk_b (T := T) hp
  rw [word_ok h (by decide)]
  simp only [Option.bind_some]
  unfold ifP
  cases hw : wd T N (sk T N p) 22 with
  | false =>
    simp only [Bool.false_eq_true, not_false_eq_true, if_true, if_false]
    obtain ⟨v, ev, v1, v2, v3⟩ := emitD (c := 1) hD (by omega)
    have ev : q2_emit s 36 1 = some v := ev
    rw [ev]
    simp only [Option.bind_some]
    obtain ⟨w, ew, w1, w2, w3⟩ := emitD (c := L) v1 (by rw [List.length_append]; show out.length + 1 < 412; omega)
    rw [ew]
    refine wo_some ⟨rfl, ?_, (fyD v2).tr (fyD w2), w3.trans v3, ?_⟩
    · rw [sk_sk hp]
      exact h.mv ((w2 1 (by decide) (by decide)).trans (v2 1 (by decide) (by decide))) ((w2 2 (by decide) (by decide)).trans (v2 2 (by decide) (by decide)))
    · rw [List.append_assoc] at w1
      exact w1
  | true =>
    simp only [not_true_eq_false, if_false, if_true]
    have hl2 := wd_b hw (by decide) hb.2
    have hwl : te T N (sk T N p) = sk T N p + 2 := by
      have := hw
      unfold wd at this
      rw [Bool.and_eq_true, Bool.and_eq_true, decide_eq_true_eq, decide_eq_true_eq] at this
      have h3 : wl 22 = 2 := by decide
      omega
    obtain ⟨⟨x1, x2⟩, ex, hx⟩ := cond_ok hN h (by omega) hD.1 hD.2 (by omega)
    rw [ex]
    simp only [Option.bind_some]
    have hg := gd_sm (T := T) (gd_at (T := T) (N := N) 6) (te T N (sk T N p)) hl2.2.1
    cases hr : smP T N (atP T N 6) (te T N (sk T N p)) with
    | inl e =>
      rw [hr] at hx
      obtain ⟨rfl, a2, a3⟩ := hx
      simp only [Bool.false_eq_true, not_false_eq_true, if_true]
      exact wo_some ⟨rfl, a2, a3⟩
    | inr v =>
      obtain ⟨c, p1⟩ := v
      rw [hr] at hx hg
      obtain ⟨rfl, a2, a3, a4, a5, a6⟩ := hx
      have hg1 : c.length + te T N (sk T N p) ≤ p1 := hg.1
      have hg2 : p1 ≤ N := hg.2.1
      dsimp only at a2 a3 a4 a5 a6
      simp only [not_true_eq_false, if_false]
      obtain ⟨w, ew, w1, w2, w3⟩ := emitD (c := L) (show CD x2 (out ++ c) from ⟨a5, a6⟩) (by rw [List.length_append]; omega)
      rw [ew]
      refine wo_some ⟨rfl, a2.mv (w2 1 (by decide) (by decide)) (w2 2 (by decide) (by decide)), a3.tr (fyD w2), w3.trans a4, ?_⟩
      rw [List.append_assoc] at w1
      exact w1
theorem lineC {T : TxT} {N p : Nat} {s : St} {out : List Nat} (hN : N ≤ 400) (hp : p ≤ N) (h : TK T N s (sk T N p)) (hD : CD s out) (hl : out.length ≤ p) : Wo (q6_readLawLine s) (fun x => LnC T N out s (lineP T N p) x) := by
  have hb := sk_b (T := T) hp
  unfold q6_readLawLine
  dsimp only [lt]
  rw [word_ok h (by decide), word_ok h (by decide), word_ok h (by decide)]
  simp only [Option.bind_some]
  have lnfy : ∀ (s' : St) (r : LnR) (x : Bool × St), (∀ i, i ≠ 1 → s' i = s i) → LnC T N out s' r x → LnC T N out s r x := fun s' r x he hx => by
    rcases r with e | ⟨l, p1⟩
    · obtain ⟨a1, a2, a3⟩ := hx
      exact ⟨a1, a2, (fy1 he).tr a3⟩
    · obtain ⟨a1, a2, a3, a4, a5⟩ := hx
      exact ⟨a1, a2, (fy1 he).tr a3, by rw [a4, he 36 (by decide)], a5⟩
  have hnum : ∀ (w K : Nat), wd T N (sk T N p) w = true → w < 46 → K ≤ 3000 → Wo (Option.bind (q6_numberFollows s 20) fun x26_ =>
  if x26_.1 = (-1) then (some (false, x26_.2)) else
  Option.bind (q8_isWord x26_.2 22) fun x48_ =>
  if ¬ (x48_ = true) then (Option.bind (q2_emit x26_.2 36 1) fun x52_ =>
  Option.bind (q2_emit x52_ 36 (nI K + x26_.1)) fun x60_ =>
  some (true, x60_)) else (Option.bind (q6_readCondition x26_.2) fun x56_ =>
  if ¬ (x56_.1 = true) then (some (false, x56_.2)) else
  Option.bind (q2_emit x56_.2 36 (nI K + x26_.1)) fun x60_ =>
  some (true, x60_))) (fun x => LnC T N out s (match nm T N (sk T N (te T N (sk T N p))) 20 with | none => .inl (sk T N (te T N (sk T N p))) | some v => ifP T N (K + v) (te T N (sk T N (te T N (sk T N p))))) x) := fun w K hw hw2 hK => by
    have hl2 := wd_b hw hw2 hb.2
    have hb2 := sk_b (T := T) hl2.2.1
    have ht2 := te_b (T := T) hb2.2
    obtain ⟨⟨x1, x2⟩, ex, a1, a2, a3⟩ := numF_ok (H := 20) h
    dsimp only at a1 a2 a3
    rw [ex]
    simp only [Option.bind_some]
    rw [a1]
    cases hn : nm T N (sk T N (te T N (sk T N p))) 20 with
    | none =>
      rw [hn, if_pos rfl] at a2
      rw [if_pos (show oI none = -1 from rfl)]
      exact wo_some ⟨rfl, a2, fy1 a3⟩
    | some v =>
      rw [hn, if_neg (fun q => by cases q)] at a2
      have hv := nm_b hn
      rw [if_neg (show ¬ oI (some v) = -1 from nI_m1 (by omega)), show oI (some v) = nI v from rfl, nI_add]
      refine wo_mono (ifC (L := K + v) hN ht2.2.1 a2 (hD.mv a3) (by omega)) (fun x hx => lnfy x2 _ x a3 hx)
  unfold lineP
  cases c1 : wd T N (sk T N p) 19 with
  | true =>
    simp only [if_true, Option.bind_some]
    exact hnum 19 2000 c1 (by decide) (by omega)
  | false =>
    cases c2 : wd T N (sk T N p) 20 with
    | true =>
      simp only [Bool.false_eq_true, if_false, if_true, Option.bind_some]
      exact hnum 20 3000 c2 (by decide) (by omega)
    | false =>
      simp only [Bool.false_eq_true, if_false, Option.bind_some]
      cases c3 : wd T N (sk T N p) 21 with
      | true =>
        simp only [if_true]
        have hl2 := wd_b c3 (by decide) hb.2
        obtain ⟨v, ev, v1, v2⟩ := adv_ok h
        rw [ev]
        simp only [Option.bind_some]
        exact wo_mono (ifC (L := 4000) hN hl2.2.1 v1 (hD.mv v2) (by omega)) (fun x hx => lnfy v _ x v2 hx)
      | false =>
        simp only [Bool.false_eq_true, if_false]
        exact wo_some ⟨rfl, h, Fy.rf⟩
def cds (ls : List (List Nat × Nat)) : List Nat := ls.flatMap (fun l => l.1 ++ [l.2])
def rlB (rec14_ : Int32 → St → Option RcT) (lines17_ : Int32) (σ18_ : St) : Option RcT :=
  if lines17_ < 12 then
  Option.bind (q6_readLawLine σ18_) fun x27_ =>
  if ¬ (x27_.1 = true) then (some (.inl (false, x27_.2))) else
  if q8_isAtEnd (up x27_.2 36 4 ((x27_.2 36 4) + 1)) = true then (some (.inl (true, up x27_.2 36 4 ((x27_.2 36 4) + 1)))) else
  Option.bind (q8_isSign (up x27_.2 36 4 ((x27_.2 36 4) + 1)) 59) fun x39_ =>
  if ¬ (x39_ = true) then (some (.inl (false, up x27_.2 36 4 ((x27_.2 36 4) + 1)))) else
  Option.bind (q8_advance (up x27_.2 36 4 ((x27_.2 36 4) + 1))) fun x43_ =>
  rec14_ (lines17_ + 1) x43_
  else (some (.inr (lines17_, σ18_)))
def LwC (T : TxT) (N n : Nat) (out : List Nat) (s : St) (r : Nat ⊕ List (List Nat × Nat)) (x : Bool × St) : Prop := match r with
  | .inl e => x.1 = false ∧ TK T N x.2 e ∧ Fy s x.2
  | .inr ls => x.1 = true ∧ Fy s x.2 ∧ x.2 36 4 = nI (n + ls.length) ∧ CD x.2 (out ++ cds ls) ∧ TX T N x.2
theorem linesC {T : TxT} {N : Nat} (hN : N ≤ 400) : ∀ (k n M p : Nat) (s : St) (out : List Nat), k + n = 12 → k < M → p ≤ N → TK T N s (sk T N p) → CD s out → out.length ≤ p → s 36 4 = nI n → Wo (loop2 rlB M (nI n) s) (fun y => Wo (rcX y) (fun x => LwC T N n out s (lnsP T N k p) x))
  | k, n, 0, p, s, out, hkn, hM, hp, h, hD, hl, h4 => absurd hM (Nat.not_lt_zero _)
  | k, n, M + 1, p, s, out, hkn, hM, hp, h, hD, hl, h4 => by
    show Wo (rlB (loop2 rlB M) (nI n) s) _
    have hih : ∀ (k' : Nat) (p' : Nat) (s' : St) (out' : List Nat), k' + 1 = k → p' ≤ N → TK T N s' (sk T N p') → CD s' out' → out'.length ≤ p' → s' 36 4 = nI (n + 1) → Wo (loop2 rlB M (nI (n + 1)) s') (fun y => Wo (rcX y) (fun x => LwC T N (n + 1) out' s' (lnsP T N k' p') x)) := fun k' p' s' out' hk a b c d e => linesC hN k' (n + 1) M p' s' out' (by omega) (by omega) a b c d e
    generalize loop2 rlB M = rec at hih
    unfold rlB
    have e12 : nI n < 12 ↔ n < 12 := nI_ltI (b := 12) (by omega) (by decide)
    cases k with
    | zero =>
      rw [if_neg (fun q => by have := e12.mp q; omega)]
      unfold lnsP
      exact wo_some (wo_some ⟨rfl, h, Fy.rf⟩)
    | succ k =>
      rw [if_pos (e12.mpr (by omega))]
      obtain ⟨⟨x1, x2⟩, ex, hx⟩ := lineC hN hp h hD hl
      have hg := gd_line (T := T) (N := N) (p := p) hp
      rw [ex]
      simp only [Option.bind_some]
      unfold lnsP
      cases hr : lineP T N p with
      | inl e =>
        rw [hr] at hx
        obtain ⟨rfl, a2, a3⟩ := hx
        simp only [Bool.false_eq_true, not_false_eq_true, if_true]
        exact wo_some (wo_some ⟨rfl, a2, a3⟩)
      | inr v =>
        obtain ⟨l, p1⟩ := v
        rw [hr] at hx hg
        obtain ⟨rfl, a2, a3, a4, a5⟩ := hx
        dsimp only at a2 a3 a4 a5
        have hg1 : l.1.length + 1 + p ≤ p1 := hg.1
        have hp1 : p1 ≤ N := hg.2.1
        have hb1 := sk_b (T := T) hp1
        simp only [not_true_eq_false, if_false]
        have hu : TK T N (up x2 36 4 ((x2 36 4) + 1)) (sk T N p1) := a2.mv (up_pl (by decide)) (up_pl (by decide))
        have hu4 : up x2 36 4 ((x2 36 4) + 1) 36 4 = nI (n + 1) := by rw [up_at, a4, h4, nI_1]
        have hud : CD (up x2 36 4 ((x2 36 4) + 1)) (out ++ (l.1 ++ [l.2])) := ⟨by rw [up_off (by decide)]; exact a5.1, fun k hk => by rw [up_pl (by decide)]; exact a5.2 k hk⟩
        have huf : Fy s (up x2 36 4 ((x2 36 4) + 1)) := a3.tr (fun i _ _ _ i36 _ => up_pl i36)
        generalize up x2 36 4 ((x2 36 4) + 1) = u at hu hu4 hud huf
        rw [atEnd_ok hu]
        show Wo _ (fun y => Wo (rcX y) (fun x => LwC T N n out s (if sk T N p1 = N then _ else _) x))
        by_cases hc : sk T N p1 = N
        · rw [if_pos (decide_eq_true hc), if_pos hc]
          refine wo_some (wo_some ⟨rfl, huf, hu4, ?_, hu.1⟩)
          show CD u (out ++ cds [l])
          have : cds [l] = l.1 ++ [l.2] := by
            unfold cds
            rw [List.flatMap_cons, List.flatMap_nil, List.append_nil]
          rw [this]
          exact hud
        · rw [if_neg (by rw [decide_eq_false hc]; decide), if_neg hc, sign_ok hu (by decide)]
          simp only [Option.bind_some]
          cases hs : sg T N (sk T N p1) 59 with
          | false =>
            simp only [Bool.false_eq_true, not_false_eq_true, if_true, if_false]
            exact wo_some (wo_some ⟨rfl, hu, huf⟩)
          | true =>
            simp only [not_true_eq_false, if_false, if_true]
            have hlt := (sg_b hs).1
            obtain ⟨w, ew, w1, w2⟩ := adv_ok hu
            rw [te_sg hs (by decide)] at w1
            rw [ew]
            simp only [Option.bind_some]
            rw [nI_1]
            have ih := hih k (sk T N p1 + 1) w (out ++ (l.1 ++ [l.2])) rfl (by omega) w1 (hud.mv w2) (by rw [List.length_append, List.length_append]; show out.length + (l.1.length + 1) ≤ _; omega) (by rw [w2 36 (by decide)]; exact hu4)
            refine wo_mono ih (fun y hy => wo_mono hy (fun x hx => ?_))
            cases hr2 : lnsP T N k (sk T N p1 + 1) with
            | inl e =>
              rw [hr2] at hx
              exact ⟨hx.1, hx.2.1, (huf.tr (fy1 w2)).tr hx.2.2⟩
            | inr ls =>
              rw [hr2] at hx
              obtain ⟨b1, b2, b3, b4, b5⟩ := hx
              refine ⟨b1, (huf.tr (fy1 w2)).tr b2, ?_, ?_, b5⟩
              · rw [b3]
                congr 1
                show n + 1 + ls.length = n + (ls.length + 1)
                omega
              · have : out ++ cds (l :: ls) = out ++ (l.1 ++ [l.2]) ++ cds ls := by
                  unfold cds
                  rw [List.flatMap_cons]
                  simp only [List.append_assoc]
                rw [this]
                exact b4
theorem readLaw_ok {T : TxT} {N : Nat} {s : St} (h : TX T N s) : Wo (q6_readLaw s) (fun x => LwC T N 0 [] s (lawP T N) x) := by
  have hN := h.1
  have heq : q6_readLaw s = Option.bind (q8_open (up (up s 36 3 0) 36 4 0)) (fun x5_ => if q8_isAtEnd x5_ = true then (some (true, x5_)) else Option.bind (loop2 rlB fuelN (0 : Int32) x5_) rcX) := rfl
  rw [heq]
  unfold q8_open
  dsimp only [lt]
  have hX : TX T N (up (up (up s 36 3 0) 36 4 0) 1 3 0) := ⟨hN, by rw [up_off (by decide), up_pl (by decide), up_pl (by decide)]; exact h.2.1, fun k hk => by rw [up_pl (by decide), up_pl (by decide), up_pl (by decide)]; exact h.2.2 k hk⟩
  obtain ⟨v, ev, v1, v2⟩ := adv_of (e := 0) hX (by omega) up_at
  rw [ev]
  simp only [Option.bind_some]
  rw [atEnd_ok v1]
  have hf : Fy s v := fun i i1 _ _ i36 _ => by rw [v2 i i1, up_pl i1, up_pl i36, up_pl i36]
  have h4 : v 36 4 = nI 0 := by rw [v2 36 (by decide), up_pl (by decide), up_at]; rfl
  have hD : CD v [] := ⟨by rw [v2 36 (by decide), up_pl (by decide), up_off (by decide), up_at]; rfl, fun k hk => absurd hk (Nat.not_lt_zero _)⟩
  unfold lawP
  by_cases hc : sk T N 0 = N
  · rw [if_pos (decide_eq_true hc), if_pos hc]
    exact wo_some ⟨rfl, hf, h4, hD, v1.1⟩
  · rw [if_neg (by rw [decide_eq_false hc]; decide), if_neg hc]
    refine wo_bind ?_
    have := linesC hN 12 0 fuelN 0 v [] rfl (by unfold fuelN; omega) (by omega) v1 hD (Nat.zero_le _) h4
    refine wo_mono this (fun y hy => wo_mono hy (fun x hx => ?_))
    cases hr : lnsP T N 12 0 with
    | inl e =>
      rw [hr] at hx
      exact ⟨hx.1, hx.2.1, hf.tr hx.2.2⟩
    | inr ls =>
      rw [hr] at hx
      exact ⟨hx.1, hf.tr hx.2.1, hx.2.2.1, hx.2.2.2.1, hx.2.2.2.2⟩

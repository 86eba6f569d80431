/-! LAYER 2: A CONDITION, READ BY THE CLASS -/
theorem cmp_ok {T : TxT} {N b : Nat} {s : St} (h : TK T N s b) : q6_comparisonHere s = some (if sg T N b 60 = true then 1101 else if sg T N b 62 = true then 1102 else -1) := by
  unfold q6_comparisonHere
  rw [sign_ok h (by decide), sign_ok h (by decide)]
  simp only [Option.bind_some]
  cases sg T N b 60
  · cases sg T N b 62 <;> rfl
  · rfl
def PlR (T : TxT) (N d : Nat) (K out : List Nat) (s : St) (r : PR) (x : Bool × St) : Prop := match r with
  | .inl e => x.1 = false ∧ TK T N x.2 e ∧ Fy s x.2
  | .inr (c, p1) => x.1 = true ∧ YC T N x.2 K d (out ++ c) (sk T N p1) ∧ Fy s x.2 ∧ x.2 36 4 = s 36 4
theorem readAtom_ok {T : TxT} {N d p : Nat} {s : St} {K out : List Nat} (hN : N ≤ 400) (hp : p ≤ N) (h : YC T N s K d out (sk T N p)) (hl : out.length ≤ p) : Wo (q6_readAtom s) (fun x => PlR T N d K out s (plainP T N p) x) := by
  have hb := sk_b (T := T) hp
  have heq : q6_readAtom s = Option.bind (Option.bind (q8_isWord s 24) fun x5_ => if x5_ = true then (some true) else (Option.bind (q8_isWord s 25) fun x8_ => if x8_ = true then (some true) else (some false))) (fun t3_ => if t3_ = true then (Option.bind (Option.bind (q8_isWord s 24) fun x17_ => if x17_ = true then (some (1007 : Int32)) else (some (1008 : Int32))) fun x12_ => Option.bind (q2_emit s 36 x12_) fun x21_ => Option.bind (q8_advance x21_) fun x23_ => some (true, x23_)) else Option.bind (loop4 raB fuelN (-1 : Int32) false (0 : Int32) s) raX) := rfl
  rw [heq, word_ok h.1 (by decide), word_ok h.1 (by decide)]
  simp only [Option.bind_some]
  have hword : ∀ k : Nat, Wo (Option.bind (q2_emit s 36 (nI k)) fun x21_ => Option.bind (q8_advance x21_) fun x23_ => some (true, x23_)) (fun x => PlR T N d K out s (.inr ([k], te T N (sk T N p))) x) := fun k => by
    obtain ⟨v, ev, v1, v2, v3, -⟩ := emit_ok (c := k) h (by omega)
    rw [ev]
    simp only [Option.bind_some]
    obtain ⟨w, ew, w1, w2⟩ := adv_ok v1.1
    rw [ew]
    exact wo_some ⟨rfl, v1.mv1 w1 w2, v2.tr (fy1 w2), (congrFun (w2 36 (by decide)) 4).trans v3⟩
  unfold plainP
  cases c1 : wd T N (sk T N p) 24 with
  | true =>
    simp only [if_true, Option.bind_some]
    exact hword 1007
  | false =>
    cases c2 : wd T N (sk T N p) 25 with
    | true =>
      simp only [Bool.false_eq_true, if_false, if_true, Option.bind_some]
      exact hword 1008
    | false =>
      simp only [Bool.false_eq_true, if_false, Option.bind_some]
      refine wo_bind ?_
      refine raS (T := T) (N := N) (cmp := -1) (K := K) (d := d) (Q := fun y => Wo (raX y) _) (s0 := s) hN (N + 1) fuelN p 0 false s out h Fy.rf rfl hp (by omega) (by unfold fuelN; omega) (by omega) hl (fun e he s' t1 t2 => ?_) (fun c p2 he s' M' parts' t1 t2 t3 t4 t5 t6 => ?_)
      · have he : sumP T N p = .inl e := he
        refine wo_some ?_
        rw [he]
        exact ⟨rfl, t1, t2⟩
      · have he : sumP T N p = .inr (c, p2) := he
        have hgd := gd_sum (T := T) (N := N) (p := p) hp
        rw [he] at hgd ⊢
        have hg1 : c.length + p ≤ p2 := hgd.1
        have hsk2 : sk T N p2 = p2 := sk_id t1.1.2.2.1
        show Wo (raE (loop4 raB M') (-1) (nI parts') s') (fun y => Wo (raX y) (fun x => PlR T N d K out s (if sg T N (sk T N p2) 60 = true then _ else _) x))
        rw [hsk2]
        unfold raE
        rw [if_neg (not_not_intro rfl), cmp_ok t1.1]
        simp only [Option.bind_some]
        have hsec : ∀ k : Nat, k = 1101 ∨ k = 1102 → p2 < N → te T N p2 = p2 + 1 → Wo (if nI k = -1 then (some (.inl (false, s'))) else Option.bind (q8_advance s') fun x79_ => loop4 raB M' (nI k) false (nI parts' + 1) x79_) (fun y => Wo (raX y) (fun x => PlR T N d K out s (bnP (sumP T N (p2 + 1)) (fun c2 p2 => .inr (c ++ (c2 ++ [k]), p2))) x)) := fun k hk hl2 hte => by
          rw [if_neg (nI_m1 (by omega))]
          obtain ⟨w, ew, w1, w2⟩ := adv_ok t1.1
          rw [hte] at w1
          rw [ew]
          simp only [Option.bind_some]
          rw [nI_1]
          refine raS (T := T) (N := N) (cmp := nI k) (K := K) (d := d) (Q := fun y => Wo (raX y) _) (s0 := s) hN (N + 1) M' (p2 + 1) (parts' + 1) false w (out ++ c) (t1.mv1 w1 w2) (t2.tr (fy1 w2)) ((congrFun (w2 36 (by decide)) 4).trans t3) (by omega) (by omega) (by omega) (by omega) (by rw [List.length_append]; show out.length + c.length + 0 ≤ _; omega) (fun e he2 s2 u1 u2 => ?_) (fun c2 p3 he2 s2 M2 parts2 u1 u2 u3 u4 u5 u6 => ?_)
          · have he2 : sumP T N (p2 + 1) = .inl e := he2
            refine wo_some ?_
            rw [he2]
            exact ⟨rfl, u1, u2⟩
          · have he2 : sumP T N (p2 + 1) = .inr (c2, p3) := he2
            have hgd2 := gd_sum (T := T) (N := N) (p := p2 + 1) (by omega)
            rw [he2] at hgd2 ⊢
            have hg2 : c2.length + (p2 + 1) ≤ p3 := hgd2.1
            have hsk3 : sk T N p3 = p3 := sk_id u1.1.2.2.1
            unfold raE
            rw [if_pos (nI_m1 (by omega))]
            obtain ⟨v, ev, v1, v2, v3, -⟩ := emit_ok (c := k) u1 (by rw [List.length_append, List.length_append]; omega)
            rw [ev]
            refine wo_some (wo_some ⟨rfl, ?_, u2.tr v2, v3.trans u3⟩)
            rw [hsk3]
            have : out ++ c ++ c2 ++ [k] = out ++ (c ++ (c2 ++ [k])) := by simp only [List.append_assoc]
            rw [← this]
            exact v1
        by_cases c3 : sg T N p2 60 = true
        · rw [if_pos c3, if_pos c3]
          exact hsec 1101 (Or.inl rfl) (sg_b c3).1 (te_sg c3 (by decide))
        · rw [if_neg c3, if_neg c3]
          by_cases c4 : sg T N p2 62 = true
          · rw [if_pos c4, if_pos c4]
            exact hsec 1102 (Or.inr rfl) (sg_b c4).1 (te_sg c4 (by decide))
          · rw [if_neg c4, if_neg c4, if_pos rfl]
            exact wo_some (wo_some ⟨rfl, t1.1, t2⟩)
/-! the machine -/
abbrev RcT : Type := (Bool × St) ⊕ (Int32 × St)
def opB (rec4_ : Int32 → St → Option RcT) (opened7_ : Int32) (σ8_ : St) : Option RcT :=
  if opened7_ ≤ 6 then
  Option.bind (q8_isWord σ8_ 23) fun x15_ =>
  Option.bind (if x15_ = true then (some false) else (Option.bind (q8_isSign σ8_ 40) fun x22_ =>
  if x22_ = true then (some false) else (some true))) fun t19_ =>
  if t19_ = true then (some (.inl (true, σ8_))) else
  if 6 ≤ (σ8_ 3 5) then (some (.inl (false, σ8_))) else
  Option.bind (q6_waitFor (up σ8_ 3 5 ((σ8_ 3 5) + 1)) (if x15_ = true then 1105 else 1106)) fun x37_ =>
  Option.bind (q8_advance x37_) fun x39_ =>
  rec4_ (opened7_ + 1) x39_
  else (some (.inr (opened7_, σ8_)))
def opX (y : RcT) : Option (Bool × St) := Sum.elim (fun x9 => some x9) (fun y1_r => some (false, y1_r.2)) y
def clB (rec6_ : Int32 → St → Option (St ⊕ Int32 × St)) (closed9_ : Int32) (σ10_ : St) : Option (St ⊕ Int32 × St) :=
  Option.bind (if closed9_ < 6 then (Option.bind (q8_isSign σ10_ 41) fun x18_ =>
  if x18_ = true then (some true) else (some false)) else (some false)) fun t15_ =>
  if t15_ = true then
  Option.bind (q6_emitWaiting σ10_ 1103 1104) fun x22_ =>
  if (x22_ 3 4) ≤ 0 then (some (.inl x22_)) else
  Option.bind (q8_advance (up (up x22_ 3 4 ((x22_ 3 4) - 1)) 3 5 ((up x22_ 3 4 ((x22_ 3 4) - 1) 3 5) - 1))) fun x32_ =>
  Option.bind (q6_closeNots x32_) fun x34_ =>
  rec6_ (closed9_ + 1) x34_
  else (some (.inr (closed9_, σ10_)))
def afA (rec10_ : Int32 → St → Option RcT) (atoms13_ : Int32) (x32_ : St) : Option RcT :=
  Option.bind (q8_isWord x32_ 30) fun x40_ =>
  if x40_ = true then (Option.bind (q6_emitWaiting x32_ 1103 1103) fun x44_ =>
  Option.bind (q6_waitFor x44_ 1103) fun x46_ =>
  Option.bind (q8_advance x46_) fun x65_ =>
  rec10_ (atoms13_ + 1) x65_) else (Option.bind (q8_isWord x32_ 31) fun x50_ =>
  if x50_ = true then (Option.bind (q6_emitWaiting x32_ 1103 1104) fun x54_ =>
  Option.bind (q6_waitFor x54_ 1104) fun x56_ =>
  Option.bind (q8_advance x56_) fun x65_ =>
  rec10_ (atoms13_ + 1) x65_) else
  Option.bind (q6_emitWaiting x32_ 1103 1104) fun x58_ =>
  some (.inl (decide ((x58_ 3 4) = 0), x58_)))
def itA (rec10_ : Int32 → St → Option RcT) (atoms13_ : Int32) (x25_ : Bool × St) : Option RcT :=
  Option.bind (if x25_.1 = true then (Option.bind (q6_readAtom x25_.2) fun x28_ =>
  if x28_.1 = true then (some (false, x28_.2)) else (some (true, x28_.2))) else (some (true, x25_.2))) fun t23_ =>
  if t23_.1 = true then (some (.inl (false, t23_.2))) else
  Option.bind (q6_closeAtoms t23_.2) (afA rec10_ atoms13_)
def rcB (rec10_ : Int32 → St → Option RcT) (atoms13_ : Int32) (σ14_ : St) : Option RcT :=
  if atoms13_ < 400 then Option.bind (q6_openAtoms σ14_) (itA rec10_ atoms13_)
  else (some (.inr (atoms13_, σ14_)))
def rcX (y : RcT) : Option (Bool × St) := Sum.elim (fun x9 => some x9) (fun y7_r => some (false, y7_r.2)) y
theorem readC_eq {s : St} : q6_readCondition s = Option.bind (q8_advance (up (up s 3 4 0) 3 5 0)) (fun x5_ => Option.bind (loop2 rcB fuelN (0 : Int32) x5_) rcX) := by
  have hb : rcB = (fun rec10_ (atoms13_ : Int32) (σ14_ : St) =>
  if atoms13_ < 400 then
  Option.bind (Option.bind (q6_openAtoms σ14_) fun x25_ =>
  if x25_.1 = true then (Option.bind (q6_readAtom x25_.2) fun x28_ =>
  if x28_.1 = true then (some (false, x28_.2)) else (some (true, x28_.2))) else (some (true, x25_.2))) fun t23_ =>
  if t23_.1 = true then (some (.inl (false, t23_.2))) else
  Option.bind (q6_closeAtoms t23_.2) (afA rec10_ atoms13_)
  else (some (.inr (atoms13_, σ14_)))) := by
    funext rec a s
    unfold rcB itA
    rw [Option.bind_assoc]
  rw [hb]
  rfl
def S1 (rec : Int32 → St → Option RcT) (fo : Nat) (o atoms : Int32) (s : St) : Option RcT := Option.bind (Option.bind (loop2 opB fo o s) opX) (itA rec atoms)
def clX (y : St ⊕ Int32 × St) : Option St := Sum.elim (fun x9 => some x9) (fun y3_r => some y3_r.2) y
def S2 (rec : Int32 → St → Option RcT) (fc : Nat) (cl atoms : Int32) (s : St) : Option RcT := Option.bind (q6_closeNots s) fun x => Option.bind (Option.bind (loop2 clB fc cl x) clX) (afA rec atoms)
theorem rcB_S1 {rec : Int32 → St → Option RcT} {atoms : Nat} {s : St} (h : atoms < 400) : rcB rec (nI atoms) s = S1 rec fuelN 0 (nI atoms) s := by
  unfold rcB
  rw [if_pos (show nI atoms < 400 from nI_lt (b := 400) h (by decide))]
  rfl
theorem close_S2 {rec : Int32 → St → Option RcT} {atoms : Int32} {s : St} : Option.bind (q6_closeAtoms s) (afA rec atoms) = S2 rec fuelN 0 atoms s := by
  have : q6_closeAtoms s = Option.bind (q6_closeNots s) fun x => Option.bind (loop2 clB fuelN 0 x) clX := rfl
  rw [this, Option.bind_assoc]
  rfl

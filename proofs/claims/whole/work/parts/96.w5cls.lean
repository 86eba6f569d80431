/-! LAYER 2: A CONDITION IN CODE -/
def Er1 (T : TxT) (N : Nat) (s0 : St) (Q : RcT → Prop) (e : Nat) : Prop := ∀ s', TK T N s' e → Fy s0 s' → Q (.inl (false, s'))
def C1 (T : TxT) (N : Nat) (s0 : St) (M fo o atoms : Nat) (s : St) (K : List Nat) (d : Nat) (out : List Nat) (p : Nat) : Prop := YC T N s K d out (sk T N p) ∧ Fy s0 s ∧ s 36 4 = s0 36 4 ∧ p ≤ N ∧ N - p < M ∧ 8 ≤ fo + o ∧ o ≤ d ∧ atoms < 400 ∧ atoms ≤ p ∧ K.length ≤ 3 * d + 2 ∧ Sg K ∧ out.length + K.length ≤ p
def C2 (T : TxT) (N : Nat) (s0 : St) (M fc cl atoms : Nat) (s : St) (K : List Nat) (d : Nat) (out : List Nat) (p : Nat) : Prop := YQ T N s K d out (sk T N p) ∧ Fy s0 s ∧ s 36 4 = s0 36 4 ∧ p ≤ N ∧ N - p < M ∧ 8 ≤ fc + cl ∧ cl + d ≤ 6 ∧ atoms ≤ p ∧ K.length ≤ 3 * d + 2 ∧ Sg K ∧ out.length + K.length ≤ p
theorem C2.bd {T : TxT} {N M fc cl atoms d p : Nat} {s0 s : St} {K out : List Nat} (hN : N ≤ 400) (h : C2 T N s0 M fc cl atoms s K d out p) : Bd d K out := by
  obtain ⟨h1, h2, h3, h4, h5, h6, h7, h8, h9, h10, h11⟩ := h
  exact ⟨by omega, by omega, h10, by omega⟩
theorem C2.sk {T : TxT} {N M fc cl atoms d p : Nat} {s0 s : St} {K out : List Nat} (h : C2 T N s0 M fc cl atoms s K d out p) : C2 T N s0 M fc cl atoms s K d out (sk T N p) := by
  obtain ⟨h1, h2, h3, h4, h5, h6, h7, h8, h9, h10, h11⟩ := h
  have hb := sk_b (T := T) h4
  rw [← sk_sk (T := T) h4] at h1
  exact ⟨h1, h2, h3, hb.2, by omega, h6, h7, by omega, h9, h10, by omega⟩
def ATc (T : TxT) (N : Nat) (s0 : St) (Q : RcT → Prop) (r : Nat) (A : Nat → PR) : Prop := ∀ (M fo o atoms : Nat) (s : St) (K : List Nat) (d : Nat) (out : List Nat) (p : Nat), d + r = 6 → C1 T N s0 M fo o atoms s K d out p → (∀ e, A p = .inl e → Er1 T N s0 Q e) → (∀ c p1, A p = .inr (c, p1) → ∀ (M' fc cl atoms' : Nat) (s' : St), C2 T N s0 M' fc cl atoms' s' K d (out ++ c) p1 → Wo (S2 (loop2 rcB M') fc (nI cl) (nI atoms') s') Q) → Wo (S1 (loop2 rcB M) fo (nI o) (nI atoms) s) Q
theorem rec_S1 {M atoms : Nat} {s : St} (hM : 1 ≤ M) (ha : atoms + 1 < 400) : loop2 rcB M (nI atoms + 1) s = S1 (loop2 rcB (M - 1)) fuelN 0 (nI (atoms + 1)) s := by
  obtain ⟨M', rfl⟩ : ∃ M', M = M' + 1 := ⟨M - 1, by omega⟩
  show rcB (loop2 rcB M') (nI atoms + 1) s = _
  rw [nI_1, rcB_S1 ha]
  rfl
theorem sg_cons {x : Nat} {K : List Nat} (hx : x < 2000) (h : Sg K) : Sg (x :: K) := fun y hy => (List.mem_cons.mp hy).elim (fun e => by rw [e]; exact hx) (h y)
theorem ev_l {T : TxT} {N r : Nat} {s0 : St} {Q : RcT → Prop} {A : Nat → PR} (hN : N ≤ 400) (gA : GdA N A) (hA : ATc T N s0 Q r A) {K0 KB : List Nat} {d : Nat} (h0 : K0 = KB ∨ K0 = 1104 :: KB) (hb : Bs KB) (hd : d + r = 6) (hK : K0.length ≤ 3 * d + 1) : ∀ (f M fc cl atoms : Nat) (s : St) (pd out' : List Nat) (p : Nat), (pd = [] ∨ pd = [1103]) → N - p < f → C2 T N s0 M fc cl atoms s (pd ++ K0) d out' p → (∀ e, rowL T N 30 1103 A f p = .inl e → Er1 T N s0 Q e) → (∀ c2 p2, rowL T N 30 1103 A f p = .inr (c2, p2) → ∀ (M' fc' cl' atoms' : Nat) (s' : St) (pd2 out2 : List Nat), (pd2 = [] ∨ pd2 = [1103]) → out2 ++ pd2 = out' ++ (pd ++ c2) → wd T N (sk T N p2) 30 = false → C2 T N s0 M' fc' cl' atoms' s' (pd2 ++ K0) d out2 p2 → Wo (S2 (loop2 rcB M') fc' (nI cl') (nI atoms') s') Q) → Wo (S2 (loop2 rcB M) fc (nI cl) (nI atoms) s) Q
  | 0, M, fc, cl, atoms, s, pd, out', p, hp, hf, h, hE, hO => absurd hf (Nat.not_lt_zero _)
  | f + 1, M, fc, cl, atoms, s, pd, out', p, hp, hf, h, hE, hO => by
    have hpN : p ≤ N := h.2.2.2.1
    have hbk := sk_b (T := T) hpN
    unfold rowL at hE hO
    cases hw : wd T N (sk T N p) 30 with
    | false =>
      rw [hw, if_neg (by decide)] at hO
      have hs := h.sk
      refine hO [] (sk T N p) rfl M fc cl atoms s pd out' hp (by rw [List.append_nil]) (by rw [sk_sk hpN]; exact hw) hs
    | true =>
      rw [hw, if_pos rfl] at hE hO
      have hl := wd_b hw (by decide) hbk.2
      have hwl : te T N (sk T N p) = sk T N p + 3 := by
        have := hw
        unfold wd at this
        rw [Bool.and_eq_true, Bool.and_eq_true, decide_eq_true_eq, decide_eq_true_eq] at this
        have h3 : wl 30 = 3 := by decide
        omega
      have hB := h.bd hN
      obtain ⟨c1, c2, c3, c4, c5, c6, c7, c8, c9, c10, c11⟩ := h
      obtain ⟨fc', rfl⟩ : ∃ fc', fc = fc' + 1 := ⟨fc - 1, by omega⟩
      refine nx_and c1 hB h0 hb hp hw (by omega) (fun s' y1 y2 y3 => ?_)
      rw [rec_S1 (by omega) (by omega)]
      have hpl : pd.length ≤ 1 := by rcases hp with rfl | rfl <;> decide
      have hsk0 : Sg K0 := fun x hx => c10 x (List.mem_append.mpr (Or.inr hx))
      rw [List.length_append] at c11
      refine hA (M - 1) fuelN 0 (atoms + 1) s' (1103 :: K0) d (out' ++ pd) (te T N (sk T N p)) hd ⟨y1, c2.tr y2, y3.trans c3, by omega, by omega, by unfold fuelN; omega, by omega, by omega, by omega, by show K0.length + 1 ≤ _; omega, sg_cons (by omega) hsk0, by rw [List.length_append]; show out'.length + pd.length + (K0.length + 1) ≤ _; omega⟩ (fun e he => ?_) (fun c p1 he M' fc2 cl2 at2 s2 hc2 => ?_)
      · exact hE e (by rw [he]; rfl)
      · have hg := gA (te T N (sk T N p)) hl.2.1
        rw [he] at hE hO hg
        have hg1 : c.length + te T N (sk T N p) ≤ p1 := hg.1
        refine ev_l hN gA hA h0 hb hd hK f M' fc2 cl2 at2 s2 [1103] (out' ++ pd ++ c) p1 (Or.inr rfl) (by omega) hc2 (fun e he2 => ?_) (fun c2 p2 he2 M3 fc3 cl3 at3 s3 pd3 out3 q1 q2 q3 q4 => ?_)
        · refine hE e ?_
          show bnP (rowL T N 30 1103 A f p1) _ = _
          rw [he2]
          rfl
        · refine hO (c ++ 1103 :: c2) p2 ?_ M3 fc3 cl3 at3 s3 pd3 out3 q1 ?_ q3 q4
          · show bnP (rowL T N 30 1103 A f p1) _ = _
            rw [he2]
            rfl
          · rw [q2]
            simp only [List.append_assoc, List.cons_append, List.nil_append]
/-- a row of ands -/
def EVc (T : TxT) (N : Nat) (s0 : St) (Q : RcT → Prop) (r : Nat) (A : Nat → PR) : Prop := ∀ (M fo o atoms : Nat) (s : St) (K0 KB : List Nat) (d : Nat) (out : List Nat) (p : Nat), (K0 = KB ∨ K0 = 1104 :: KB) → Bs KB → d + r = 6 → K0.length ≤ 3 * d + 1 → C1 T N s0 M fo o atoms s K0 d out p → (∀ e, evP T N A p = .inl e → Er1 T N s0 Q e) → (∀ c p1, evP T N A p = .inr (c, p1) → ∀ (M' fc cl atoms' : Nat) (s' : St) (pd out' : List Nat), (pd = [] ∨ pd = [1103]) → out' ++ pd = out ++ c → wd T N (sk T N p1) 30 = false → C2 T N s0 M' fc cl atoms' s' (pd ++ K0) d out' p1 → Wo (S2 (loop2 rcB M') fc (nI cl) (nI atoms') s') Q) → Wo (S1 (loop2 rcB M) fo (nI o) (nI atoms) s) Q
theorem ev_c {T : TxT} {N r : Nat} {s0 : St} {Q : RcT → Prop} {A : Nat → PR} (hN : N ≤ 400) (gA : GdA N A) (hA : ATc T N s0 Q r A) : EVc T N s0 Q r A := by
  intro M fo o atoms s K0 KB d out p h0 hb hd hK hC hE hO
  unfold evP rowP at hE hO
  have hpN : p ≤ N := hC.2.2.2.1
  refine hA M fo o atoms s K0 d out p hd hC (fun e he => hE e (by rw [he]; rfl)) (fun c p1 he M' fc cl at' s' hc => ?_)
  have hg := gA p hpN
  rw [he] at hE hO hg
  refine ev_l hN gA hA h0 hb hd hK (N + 1) M' fc cl at' s' [] (out ++ c) p1 (Or.inl rfl) (by omega) hc (fun e he2 => ?_) (fun c2 p2 he2 M3 fc3 cl3 at3 s3 pd3 out3 q1 q2 q3 q4 => ?_)
  · refine hE e ?_
    show bnP (rowL T N 30 1103 A (N + 1) p1) _ = _
    rw [he2]
    rfl
  · refine hO (c ++ c2) p2 ?_ M3 fc3 cl3 at3 s3 pd3 out3 q1 ?_ q3 q4
    · show bnP (rowL T N 30 1103 A (N + 1) p1) _ = _
      rw [he2]
      rfl
    · rw [q2]
      simp only [List.append_assoc, List.nil_append]
theorem sm_l {T : TxT} {N r : Nat} {s0 : St} {Q : RcT → Prop} {A : Nat → PR} (hN : N ≤ 400) (gA : GdA N A) (hA : EVc T N s0 Q r A) {KB : List Nat} {d : Nat} (hb : Bs KB) (hd : d + r = 6) (hK : KB.length ≤ 3 * d) : ∀ (f M fc cl atoms : Nat) (s : St) (pd out' : List Nat) (p : Nat), P4 pd → N - p < f → wd T N (sk T N p) 30 = false → C2 T N s0 M fc cl atoms s (pd ++ KB) d out' p → (∀ e, rowL T N 31 1104 (evP T N A) f p = .inl e → Er1 T N s0 Q e) → (∀ c2 p2, rowL T N 31 1104 (evP T N A) f p = .inr (c2, p2) → ∀ (M' fc' cl' atoms' : Nat) (s' : St) (pd2 out2 : List Nat), P4 pd2 → out2 ++ pd2 = out' ++ (pd ++ c2) → wd T N (sk T N p2) 30 = false → wd T N (sk T N p2) 31 = false → C2 T N s0 M' fc' cl' atoms' s' (pd2 ++ KB) d out2 p2 → Wo (S2 (loop2 rcB M') fc' (nI cl') (nI atoms') s') Q) → Wo (S2 (loop2 rcB M) fc (nI cl) (nI atoms) s) Q
  | 0, M, fc, cl, atoms, s, pd, out', p, hp, hf, hw0, h, hE, hO => absurd hf (Nat.not_lt_zero _)
  | f + 1, M, fc, cl, atoms, s, pd, out', p, hp, hf, hw0, h, hE, hO => by
    have hpN : p ≤ N := h.2.2.2.1
    have hbk := sk_b (T := T) hpN
    unfold rowL at hE hO
    cases hw : wd T N (sk T N p) 31 with
    | false =>
      rw [hw, if_neg (by decide)] at hO
      have hs := h.sk
      refine hO [] (sk T N p) rfl M fc cl atoms s pd out' hp (by rw [List.append_nil]) (by rw [sk_sk hpN]; exact hw0) (by rw [sk_sk hpN]; exact hw) hs
    | true =>
      rw [hw, if_pos rfl] at hE hO
      have hl := wd_b hw (by decide) hbk.2
      have hwl : te T N (sk T N p) = sk T N p + 2 := by
        have := hw
        unfold wd at this
        rw [Bool.and_eq_true, Bool.and_eq_true, decide_eq_true_eq, decide_eq_true_eq] at this
        have h3 : wl 31 = 2 := by decide
        omega
      have hB := h.bd hN
      obtain ⟨c1, c2, c3, c4, c5, c6, c7, c8, c9, c10, c11⟩ := h
      obtain ⟨fc', rfl⟩ : ∃ fc', fc = fc' + 1 := ⟨fc - 1, by omega⟩
      refine nx_or c1 hB hb hp hw (by omega) (fun s' y1 y2 y3 => ?_)
      rw [rec_S1 (by omega) (by omega)]
      have hpl := (p4_l hp).1
      have hsk0 : Sg KB := fun x hx => c10 x (List.mem_append.mpr (Or.inr hx))
      rw [List.length_append] at c11
      refine hA (M - 1) fuelN 0 (atoms + 1) s' (1104 :: KB) KB d (out' ++ pd) (te T N (sk T N p)) (Or.inr rfl) hb hd (by show KB.length + 1 ≤ _; omega) ⟨y1, c2.tr y2, y3.trans c3, by omega, by omega, by unfold fuelN; omega, by omega, by omega, by omega, by show KB.length + 1 ≤ _; omega, sg_cons (by omega) hsk0, by rw [List.length_append]; show out'.length + pd.length + (KB.length + 1) ≤ _; omega⟩ (fun e he => ?_) (fun c p1 he M' fc2 cl2 at2 s2 pd2 out2 r1 r2 r3 hc2 => ?_)
      · exact hE e (by rw [he]; rfl)
      · have hg := gd_row (T := T) (k := 1103) gA (show 30 < 46 by decide) (te T N (sk T N p)) hl.2.1
        have he' : rowP T N 30 1103 A (te T N (sk T N p)) = .inr (c, p1) := he
        rw [he'] at hg
        rw [he] at hE hO
        have hg1 : c.length + te T N (sk T N p) ≤ p1 := hg.1
        have hp4 : P4 (pd2 ++ [1104]) := by
          rcases r1 with rfl | rfl
          · exact Or.inr (Or.inr (Or.inl rfl))
          · exact Or.inr (Or.inr (Or.inr rfl))
        have hc3 : C2 T N s0 M' fc2 cl2 at2 s2 ((pd2 ++ [1104]) ++ KB) d out2 p1 := by
          rw [List.append_assoc]
          exact hc2
        refine sm_l hN gA hA hb hd hK f M' fc2 cl2 at2 s2 (pd2 ++ [1104]) out2 p1 hp4 (by omega) r3 hc3 (fun e he2 => ?_) (fun c2 p2 he2 M3 fc3 cl3 at3 s3 pd3 out3 q1 q2 q3 q4 q5 => ?_)
        · refine hE e ?_
          show bnP (rowL T N 31 1104 (evP T N A) f p1) _ = _
          rw [he2]
          rfl
        · refine hO (c ++ 1104 :: c2) p2 ?_ M3 fc3 cl3 at3 s3 pd3 out3 q1 ?_ q3 q4 q5
          · show bnP (rowL T N 31 1104 (evP T N A) f p1) _ = _
            rw [he2]
            rfl
          · rw [q2]
            have : out2 ++ (pd2 ++ [1104] ++ c2) = (out2 ++ pd2) ++ ([1104] ++ c2) := by simp only [List.append_assoc]
            rw [this, r2]
            simp only [List.append_assoc, List.cons_append, List.nil_append]
/-- a whole condition -/
def SMc (T : TxT) (N : Nat) (s0 : St) (Q : RcT → Prop) (r : Nat) (A : Nat → PR) : Prop := ∀ (M fo o atoms : Nat) (s : St) (KB : List Nat) (d : Nat) (out : List Nat) (p : Nat), Bs KB → d + r = 6 → KB.length ≤ 3 * d → C1 T N s0 M fo o atoms s KB d out p → (∀ e, smP T N A p = .inl e → Er1 T N s0 Q e) → (∀ c p1, smP T N A p = .inr (c, p1) → ∀ (M' fc cl atoms' : Nat) (s' : St) (pd out' : List Nat), P4 pd → out' ++ pd = out ++ c → wd T N (sk T N p1) 30 = false → wd T N (sk T N p1) 31 = false → C2 T N s0 M' fc cl atoms' s' (pd ++ KB) d out' p1 → Wo (S2 (loop2 rcB M') fc (nI cl) (nI atoms') s') Q) → Wo (S1 (loop2 rcB M) fo (nI o) (nI atoms) s) Q
theorem sm_c {T : TxT} {N r : Nat} {s0 : St} {Q : RcT → Prop} {A : Nat → PR} (hN : N ≤ 400) (gA : GdA N A) (hA : ATc T N s0 Q r A) : SMc T N s0 Q r A := by
  intro M fo o atoms s KB d out p hb hd hK hC hE hO
  have hEv := ev_c hN gA hA
  unfold smP rowP at hE hO
  have hpN : p ≤ N := hC.2.2.2.1
  refine hEv M fo o atoms s KB KB d out p (Or.inl rfl) hb hd (by omega) hC (fun e he => hE e (by rw [he]; rfl)) (fun c p1 he M' fc cl at' s' pd out' r1 r2 r3 hc => ?_)
  rw [he] at hE hO
  have hp4 : P4 pd := r1.elim Or.inl (fun q => Or.inr (Or.inl q))
  have hp1 : p1 ≤ N := hc.2.2.2.1
  refine sm_l hN gA hEv hb hd hK (N + 1) M' fc cl at' s' pd out' p1 hp4 (by omega) r3 hc (fun e he2 => ?_) (fun c2 p2 he2 M3 fc3 cl3 at3 s3 pd3 out3 q1 q2 q3 q4 q5 => ?_)
  · refine hE e ?_
    show bnP (rowL T N 31 1104 (evP T N A) (N + 1) p1) _ = _
    rw [he2]
    rfl
  · refine hO (c ++ c2) p2 ?_ M3 fc3 cl3 at3 s3 pd3 out3 q1 ?_ q3 q4 q5
    · show bnP (rowL T N 31 1104 (evP T N A) (N + 1) p1) _ = _
      rw [he2]
      rfl
    · rw [q2, ← List.append_assoc, r2, List.append_assoc]
theorem at_plain {T : TxT} {N M fo o atoms d p : Nat} {s0 s : St} {Q : RcT → Prop} {K out : List Nat} (hN : N ≤ 400) (hC : C1 T N s0 M fo o atoms s K d out p) (hd : d ≤ 6) (h1 : wd T N (sk T N p) 23 = false) (h2 : sg T N (sk T N p) 40 = false) (hE : ∀ e, plainP T N p = .inl e → Er1 T N s0 Q e) (hO : ∀ c p1, plainP T N p = .inr (c, p1) → ∀ (M' fc cl atoms' : Nat) (s' : St), C2 T N s0 M' fc cl atoms' s' K d (out ++ c) p1 → Wo (S2 (loop2 rcB M') fc (nI cl) (nI atoms') s') Q) : Wo (S1 (loop2 rcB M) fo (nI o) (nI atoms) s) Q := by
  obtain ⟨c1, c2, c3, c4, c5, c6, c7, c8, c9, c10, c11, c12⟩ := hC
  obtain ⟨fo', rfl⟩ : ∃ fo', fo = fo' + 1 := ⟨fo - 1, by omega⟩
  have e1 : loop2 opB (fo' + 1) (nI o) s = some (.inl (true, s)) := by
    show opB (loop2 opB fo') (nI o) s = _
    generalize loop2 opB fo' = r
    unfold opB
    rw [if_pos (show nI o ≤ 6 by rw [← Int32.not_lt, show (6 : Int32) = nI 6 from rfl, nI_ltI (by omega) (by omega)]; omega), word_ok c1.1 (by decide), h1]
    simp only [Option.bind_some, Bool.false_eq_true, if_false]
    rw [sign_ok c1.1 (by decide), h2]
    rfl
  unfold S1
  rw [e1]
  show Wo (itA (loop2 rcB M) (nI atoms) (true, s)) Q
  unfold itA
  obtain ⟨⟨x1, x2⟩, ex, hx⟩ := readAtom_ok hN c4 c1 (by omega)
  have hgd := gd_plain (T := T) (N := N) (p := p) c4
  rw [if_pos rfl, ex]
  simp only [Option.bind_some]
  cases hr : plainP T N p with
  | inl e =>
    rw [hr] at hx
    obtain ⟨rfl, hx2, hx3⟩ := hx
    simp only [Bool.false_eq_true, if_false, Option.bind_some, if_true]
    exact wo_some (hE e hr x2 hx2 (c2.tr hx3))
  | inr v =>
    obtain ⟨c, p1⟩ := v
    rw [hr] at hx hgd
    obtain ⟨rfl, hx2, hx3, hx4⟩ := hx
    simp only [if_true, Option.bind_some, Bool.false_eq_true, if_false]
    rw [close_S2]
    have hg1 : c.length + p ≤ p1 := hgd.1
    have hg2 : p1 ≤ N := hgd.2.1
    have hb1 := sk_b (T := T) hg2
    exact hO c p1 hr M fuelN 0 atoms x2 ⟨YQ.of hx2 hd, c2.tr hx3, (show x2 36 4 = s 36 4 from hx4).trans c3, hg2, by omega, by unfold fuelN; omega, by omega, by omega, c10, c11, by rw [List.length_append]; omega⟩
theorem at_open {T : TxT} {N M fo o atoms d p w : Nat} {s0 s : St} {Q : RcT → Prop} {K out : List Nat} (hN : N ≤ 400) (hC : C1 T N s0 M fo o atoms s K d out p) (hd : d < 6) (hw : (wd T N (sk T N p) 23 = true ∧ w = 1105) ∨ (wd T N (sk T N p) 23 = false ∧ sg T N (sk T N p) 40 = true ∧ w = 1106)) (k : ∀ s' fo', C1 T N s0 M fo' (o + 1) atoms s' (w :: K) (d + 1) out (te T N (sk T N p)) → Wo (S1 (loop2 rcB M) fo' (nI (o + 1)) (nI atoms) s') Q) : Wo (S1 (loop2 rcB M) fo (nI o) (nI atoms) s) Q := by
  obtain ⟨c1, c2, c3, c4, c5, c6, c7, c8, c9, c10, c11, c12⟩ := hC
  obtain ⟨fo', rfl⟩ : ∃ fo', fo = fo' + 1 := ⟨fo - 1, by omega⟩
  have hb := sk_b (T := T) c4
  have hlt : sk T N p < N := by
    rcases hw with ⟨h1, -⟩ | ⟨-, h1, -⟩
    · exact (wd_b h1 (by decide) hb.2).2.2
    · exact (sg_b h1).1
  have ht := te_b (T := T) hb.2
  have ht2 := ht.2.2 hlt
  have hy : YC T N (up s 3 5 ((s 3 5) + 1)) K (d + 1) out (sk T N p) := by
    obtain ⟨a1, a2, a3, a4, a5, a6⟩ := c1
    exact ⟨a1.mv (up_pl (by decide)) (up_pl (by decide)), by rw [up_pl (by decide)]; exact a2, fun k hk => by rw [up_pl (by decide)]; exact a3 k hk, by rw [up_off (by decide)]; exact a4, fun j hj => by rw [up_pl (by decide)]; exact a5 j hj, by rw [up_at, a6, nI_1]⟩
  obtain ⟨x, ex, x1, x2, x3⟩ := wait_ok (c := w) hy (by omega)
  obtain ⟨y, ey, y1, y2⟩ := adv_ok x1.1
  have e1 : ∀ r, opB r (nI o) s = r (nI o + 1) y := fun r => by
    unfold opB
    rw [if_pos (show nI o ≤ 6 by rw [← Int32.not_lt, show (6 : Int32) = nI 6 from rfl, nI_ltI (by omega) (by omega)]; omega), word_ok c1.1 (by decide)]
    simp only [Option.bind_some]
    have h6 : ¬ (6 : Int32) ≤ s 3 5 := by
      rw [c1.2.2.2.2.2, Int32.not_le]
      exact nI_lt (b := 6) hd (by decide)
    rcases hw with ⟨h1, rfl⟩ | ⟨h1, h2, rfl⟩
    · rw [h1]
      simp only [if_true, Option.bind_some, Bool.false_eq_true, if_false]
      have ex : q6_waitFor (up s 3 5 ((s 3 5) + 1)) 1105 = some x := ex
      rw [if_neg h6, ex]
      simp only [Option.bind_some]
      rw [ey]
      rfl
    · rw [h1]
      simp only [Bool.false_eq_true, if_false]
      rw [sign_ok c1.1 (by decide), h2]
      simp only [if_true, Option.bind_some, Bool.false_eq_true, if_false]
      have ex : q6_waitFor (up s 3 5 ((s 3 5) + 1)) 1106 = some x := ex
      rw [if_neg h6, ex]
      simp only [Option.bind_some]
      rw [ey]
      rfl
  unfold S1
  show Wo (Option.bind (Option.bind (opB (loop2 opB fo') (nI o) s) opX) (itA (loop2 rcB M) (nI atoms))) Q
  rw [e1, nI_1]
  have hw2 : w < 2000 := by rcases hw with ⟨-, rfl⟩ | ⟨-, -, rfl⟩ <;> omega
  exact k y fo' ⟨x1.mv1 y1 y2, (c2.tr (fun i i1 i3 i4 i36 i37 => up_pl i3)).tr (x2.tr (fy1 y2)), by rw [y2 36 (by decide), x3, up_pl (by decide)]; exact c3, ht.2.1, by omega, by omega, by omega, c8, by omega, by show K.length + 1 ≤ _; omega, sg_cons hw2 c11, by show out.length + (K.length + 1) ≤ _; omega⟩
theorem at_c {T : TxT} {N : Nat} {s0 : St} {Q : RcT → Prop} (hN : N ≤ 400) : ∀ r, ATc T N s0 Q r (atP T N r) := by
  intro r
  induction r with
  | zero =>
    intro M fo o atoms s K d out p hd hC hE hO
    unfold atP at hE hO
    have hC' := hC
    obtain ⟨c1, c2, c3, c4, c5, c6, c7, c8, c9, c10, c11, c12⟩ := hC'
    have hfail : (wd T N (sk T N p) 23 = true ∨ sg T N (sk T N p) 40 = true) → Er1 T N s0 Q (sk T N p) → Wo (S1 (loop2 rcB M) fo (nI o) (nI atoms) s) Q := fun hw he => by
      obtain ⟨fo', rfl⟩ : ∃ fo', fo = fo' + 1 := ⟨fo - 1, by omega⟩
      have e1 : loop2 opB (fo' + 1) (nI o) s = some (.inl (false, s)) := by
        show opB (loop2 opB fo') (nI o) s = _
        generalize loop2 opB fo' = r
        unfold opB
        rw [if_pos (show nI o ≤ 6 by rw [← Int32.not_lt, show (6 : Int32) = nI 6 from rfl, nI_ltI (by omega) (by omega)]; omega), word_ok c1.1 (by decide)]
        simp only [Option.bind_some]
        have h6 : (6 : Int32) ≤ s 3 5 := by
          rw [c1.2.2.2.2.2, show d = 6 from by omega]
          exact Int32.le_refl _
        cases h1 : wd T N (sk T N p) 23 with
        | true =>
          simp only [if_true, Option.bind_some, Bool.false_eq_true, if_false]
          rw [if_pos h6]
        | false =>
          simp only [Bool.false_eq_true, if_false]
          rw [sign_ok c1.1 (by decide), hw.elim (fun q => by rw [h1] at q; cases q) id]
          simp only [if_true, Option.bind_some, Bool.false_eq_true, if_false]
          rw [if_pos h6]
      unfold S1
      rw [e1]
      show Wo (itA (loop2 rcB M) (nI atoms) (false, s)) Q
      unfold itA
      simp only [Bool.false_eq_true, if_false, Option.bind_some, if_true]
      exact wo_some (he s c1.1 c2)
    cases h1 : wd T N (sk T N p) 23 with
    | true =>
      rw [if_pos h1] at hE
      exact hfail (Or.inl h1) (hE _ rfl)
    | false =>
      rw [if_neg (by rw [h1]; decide)] at hE hO
      cases h2 : sg T N (sk T N p) 40 with
      | true =>
        rw [if_pos h2] at hE
        exact hfail (Or.inr h2) (hE _ rfl)
      | false =>
        rw [if_neg (by rw [h2]; decide)] at hE hO
        exact at_plain hN hC (by omega) h1 h2 hE hO
  | succ r ih =>
    intro M fo o atoms s K d out p hd hC hE hO
    unfold atP at hE hO
    have hC' := hC
    obtain ⟨c1, c2, c3, c4, c5, c6, c7, c8, c9, c10, c11, c12⟩ := hC'
    have hb := sk_b (T := T) c4
    cases h1 : wd T N (sk T N p) 23 with
    | true =>
      rw [if_pos h1] at hE hO
      refine at_open hN hC (by omega) (Or.inl ⟨h1, rfl⟩) (fun s' fo' hc => ?_)
      refine ih M fo' (o + 1) atoms s' (1105 :: K) (d + 1) out (te T N (sk T N p)) (by omega) hc (fun e he => hE e (by rw [he]; rfl)) (fun c p1 he M' fc cl at' s2 hc2 => ?_)
      obtain ⟨d1, d2, d3, d4, d5, d6, d7, d8, d9, d10, d11⟩ := hc2
      have d11 : (out ++ c).length + (K.length + 1) ≤ p1 := d11
      refine hO (c ++ [1105]) p1 (by rw [he]; rfl) M' fc cl at' s2 ⟨?_, d2, d3, d4, d5, d6, by omega, d8, c10, c11, ?_⟩
      · rw [← List.append_assoc]
        exact d1.nt
      · rw [← List.append_assoc, List.length_append]
        show (out ++ c).length + 1 + K.length ≤ p1
        omega
    | false =>
      rw [if_neg (by rw [h1]; decide)] at hE hO
      cases h2 : sg T N (sk T N p) 40 with
      | true =>
        rw [if_pos h2] at hE hO
        refine at_open hN hC (by omega) (Or.inr ⟨h1, h2, rfl⟩) (fun s' fo' hc => ?_)
        rw [te_sg h2 (by decide)] at hc
        refine sm_c hN (gd_at r) ih M fo' (o + 1) atoms s' (1106 :: K) (d + 1) out (sk T N p + 1) (Or.inr ⟨K, rfl⟩) (by omega) (by show K.length + 1 ≤ _; omega) hc (fun e he => hE e (by rw [he]; rfl)) (fun c p1 he M' fc cl at' s2 pd out' r1 r2 r3 r4 hc2 => ?_)
        rw [he] at hE hO
        have hBd := hc2.bd hN
        obtain ⟨d1, d2, d3, d4, d5, d6, d7, d8, d9, d10, d11⟩ := hc2
        have hb1 := sk_b (T := T) d4
        obtain ⟨fc', rfl⟩ : ∃ fc', fc = fc' + 1 := ⟨fc - 1, by omega⟩
        cases h3 : sg T N (sk T N p1) 41 with
        | true =>
          have hl3 := (sg_b h3).1
          refine nx_cl d1 hBd r1 h3 (by omega) (fun s3 y1 y2 y3 => ?_)
          rw [List.length_append] at d11
          have d11 : out'.length + (pd.length + (K.length + 1)) ≤ p1 := d11
          refine hO c (sk T N p1 + 1) (by show (if sg T N (sk T N p1) 41 = true then _ else _) = _; rw [if_pos h3]) M' fc' (cl + 1) at' s3 ⟨?_, d2.tr y2, y3.trans d3, by omega, by omega, by omega, by omega, by omega, c10, c11, ?_⟩
          · rw [← r2]
            exact YQ.of y1 (by omega)
          · rw [← r2, List.length_append]
            omega
        | false =>
          refine nx_end d1 hBd (Or.inr ⟨K, rfl⟩) r1 r3 r4 (Or.inl h3) (by omega) (fun s3 y1 y2 y3 => ?_)
          have := hE (sk T N p1) (by show (if sg T N (sk T N p1) 41 = true then _ else _) = _; rw [if_neg (by rw [h3]; decide)]) s3 y1.1 (d2.tr y2)
          exact this
      | false =>
        rw [if_neg (by rw [h2]; decide)] at hE hO
        exact at_plain hN hC (by omega) h1 h2 hE hO
/-- a condition behind an if -/
theorem cond_ok {T : TxT} {N b : Nat} {s : St} {out : List Nat} (hN : N ≤ 400) (h : TK T N s b) (hb2 : 2 ≤ te T N b) (h3 : s 36 3 = nI out.length) (h37 : ∀ k, k < out.length → s 37 k = nI (ofL out k)) (hl : out.length ≤ te T N b) : Wo (q6_readCondition s) (fun x => match smP T N (atP T N 6) (te T N b) with
  | .inl e => x.1 = false ∧ TK T N x.2 e ∧ Fy s x.2
  | .inr (c, p1) => x.1 = true ∧ TK T N x.2 (sk T N p1) ∧ Fy s x.2 ∧ x.2 36 4 = s 36 4 ∧ x.2 36 3 = nI (out ++ c).length ∧ ∀ k, k < (out ++ c).length → x.2 37 k = nI (ofL (out ++ c) k)) := by
  have ht := te_b (T := T) h.2.1
  rw [readC_eq]
  have hk0 : TK T N (up (up s 3 4 0) 3 5 0) b := h.mv (by rw [up_pl (by decide), up_pl (by decide)]) (by rw [up_pl (by decide), up_pl (by decide)])
  obtain ⟨v, ev, v1, v2⟩ := adv_ok hk0
  rw [ev]
  simp only [Option.bind_some]
  have hy : YC T N v [] 0 out (sk T N (te T N b)) := ⟨v1, by rw [v2 36 (by decide), up_pl (by decide), up_pl (by decide)]; exact h3, fun k hk => by rw [v2 37 (by decide), up_pl (by decide), up_pl (by decide)]; exact h37 k hk, by rw [v2 3 (by decide), up_off (by decide), up_at]; rfl, fun j hj => absurd hj (Nat.not_lt_zero _), by rw [v2 3 (by decide), up_at]; rfl⟩
  have hF : Fy s v := fun i i1 i3 i4 i36 i37 => by rw [v2 i i1, up_pl i3, up_pl i3]
  have h36 : v 36 4 = s 36 4 := by rw [v2 36 (by decide), up_pl (by decide), up_pl (by decide)]
  refine wo_bind ?_
  have e0 : ∀ M, loop2 rcB (M + 1) 0 v = S1 (loop2 rcB M) fuelN 0 0 v := fun M => by
    show rcB (loop2 rcB M) (nI 0) v = _
    exact rcB_S1 (by omega)
  have e1 : loop2 rcB fuelN 0 v = S1 (loop2 rcB (fuelN - 1)) fuelN 0 0 v := by
    have := e0 (fuelN - 1)
    rw [show fuelN - 1 + 1 = fuelN from by unfold fuelN; omega] at this
    exact this
  rw [e1]
  refine sm_c (s0 := s) hN (gd_at 6) (at_c hN 6) (fuelN - 1) fuelN 0 0 v [] 0 out (te T N b) (Or.inl rfl) rfl (by decide) ⟨hy, hF, h36, ht.2.1, by unfold fuelN; omega, by unfold fuelN; omega, by omega, by omega, by omega, by decide, fun x hx => absurd hx List.not_mem_nil, by show out.length + 0 ≤ _; omega⟩ (fun e he s' t1 t2 => ?_) (fun c p1 he M' fc cl at' s' pd out' r1 r2 r3 r4 hc => ?_)
  · refine wo_some ?_
    rw [he]
    exact ⟨rfl, t1, t2⟩
  · have hBd := hc.bd hN
    obtain ⟨d1, d2, d3, d4, d5, d6, d7, d8, d9, d10, d11⟩ := hc
    obtain ⟨fc', rfl⟩ : ∃ fc', fc = fc' + 1 := ⟨fc - 1, by omega⟩
    refine nx_end d1 hBd (Or.inl rfl) r1 r3 r4 (Or.inr rfl) (by omega) (fun s3 y1 y2 y3 => ?_)
    refine wo_some ?_
    rw [he]
    rw [r2] at y1
    exact ⟨rfl, y1.1, d2.tr y2, y3.trans d3, y1.2.1, y1.2.2.1⟩

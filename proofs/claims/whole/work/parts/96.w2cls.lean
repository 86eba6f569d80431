/-! LAYER 2: ATOMS, READ BY THE CLASS -/
theorem YC.mv1 {T : TxT} {N d b b' : Nat} {s s' : St} {K out : List Nat} (h : YC T N s K d out b) (hk : TK T N s' b') (e : ∀ i, i ≠ 1 → s' i = s i) : YC T N s' K d out b' := by
  obtain ⟨h1, h2, h3, h4, h5, h6⟩ := h
  exact ⟨hk, by rw [e 36 (by decide)]; exact h2, fun k hk => by rw [e 37 (by decide)]; exact h3 k hk, by rw [e 3 (by decide)]; exact h4, fun j hj => by rw [e 4 (by decide)]; exact h5 j hj, by rw [e 3 (by decide)]; exact h6⟩
theorem fy1 {s s' : St} (e : ∀ i, i ≠ 1 → s' i = s i) : Fy s s' := fun i i1 _ _ _ _ => e i i1
theorem partHere_ok {T : TxT} {N b : Nat} {s : St} (h : TK T N s b) (hn : nm T N b 999 = none) : q6_partHere s = some (oI (pcode T N b)) := by
  unfold q6_partHere pcode
  rw [hn, word_ok h (by decide), word_ok h (by decide), word_ok h (by decide), word_ok h (by decide), word_ok h (by decide), word_ok h (by decide), word_ok h (by decide)]
  simp only [Option.bind_some]
  cases wd T N b 26
  · cases wd T N b 27
    · cases wd T N b 7
      · cases wd T N b 1
        · cases wd T N b 28
          · cases wd T N b 29
            · cases wd T N b 5 <;> rfl
            · rfl
          · rfl
        · rfl
      · rfl
    · rfl
  · rfl
theorem readPart_ok {T : TxT} {N d b : Nat} {s : St} {K out : List Nat} (h : YC T N s K d out b) (hl : out.length < 412) : Wo (q6_readPart s) (fun r => match pcode T N b with
  | some c => r.1 = true ∧ YC T N r.2 K d (out ++ [c]) (sk T N (te T N b)) ∧ Fy s r.2 ∧ r.2 36 4 = s 36 4
  | none => r.1 = false ∧ r.2 = s) := by
  have hk := h.1
  unfold q6_readPart
  rw [num_ok hk]
  simp only [Option.bind_some]
  have hpc : (if (oI (nm T N b 999)) = (-1 : Int32) then (Option.bind (q6_partHere s) fun x9_ => some x9_) else (some (oI (nm T N b 999)))) = some (oI (pcode T N b)) := by
    cases hn : nm T N b 999 with
    | some v =>
      have := nm_b hn
      rw [show oI (some v) = nI v from rfl, if_neg (nI_m1 (by omega))]
      unfold pcode
      rw [hn]
      rfl
    | none =>
      rw [if_pos (show oI none = -1 from rfl), partHere_ok hk hn]
      rfl
  rw [hpc]
  simp only [Option.bind_some]
  cases hc : pcode T N b with
  | none =>
    rw [if_pos (show oI none = -1 from rfl)]
    exact wo_some ⟨rfl, rfl⟩
  | some c =>
    have hcb := (pcode_b hc hk.2.1).2
    rw [show oI (some c) = nI c from rfl, if_neg (nI_m1 (by omega))]
    obtain ⟨v, ev, v1, v2, v3, v4, v5, v6⟩ := emit_ok (c := c) h hl
    rw [ev]
    simp only [Option.bind_some]
    obtain ⟨w, ew, w1, w2⟩ := adv_ok v1.1
    rw [ew]
    exact wo_some ⟨rfl, v1.mv1 w1 w2, v2.tr (fy1 w2), (congrFun (w2 36 (by decide)) 4).trans v3⟩
abbrev RaT : Type := (Bool × St) ⊕ (Int32 × Bool × Int32 × St)
def raB (rec28_ : Int32 → Bool → Int32 → St → Option RaT) (comparing31_ : Int32) (adding32_ : Bool) (parts33_ : Int32) (σ34_ : St) : Option RaT :=
  if parts33_ < 400 then
  Option.bind (q6_readPart σ34_) fun x43_ =>
  if ¬ (x43_.1 = true) then (some (.inl (false, x43_.2))) else
  Option.bind (if adding32_ = true then (Option.bind (q2_emit x43_.2 36 1100) fun x54_ =>
  some (x54_)) else (some (x43_.2))) fun y47_ =>
  Option.bind (q8_isSign y47_ 43) fun x56_ =>
  if (¬ (x56_ = true)) ∧ (¬ comparing31_ = (-1)) then (Option.bind (q2_emit y47_ 36 comparing31_) fun x63_ =>
  some (.inl (true, x63_))) else
  if ¬ (x56_ = true) then (Option.bind (q6_comparisonHere y47_) fun x73_ =>
  if x73_ = (-1) then (some (.inl (false, y47_))) else
  Option.bind (q8_advance y47_) fun x79_ =>
  rec28_ x73_ x56_ (parts33_ + 1) x79_) else (Option.bind (q8_advance y47_) fun x79_ =>
  rec28_ comparing31_ x56_ (parts33_ + 1) x79_)
  else (some (.inr (comparing31_, adding32_, parts33_, σ34_)))
def raX (y : RaT) : Option (Bool × St) := Sum.elim (fun x9 => some x9) (fun y25_r => some (false, y25_r.2.2.2)) y
def raE (rec28_ : Int32 → Bool → Int32 → St → Option RaT) (cmp parts : Int32) (y47_ : St) : Option RaT :=
  if ¬ cmp = (-1) then (Option.bind (q2_emit y47_ 36 cmp) fun x63_ => some (.inl (true, x63_))) else
  Option.bind (q6_comparisonHere y47_) fun x73_ =>
  if x73_ = (-1) then (some (.inl (false, y47_))) else
  Option.bind (q8_advance y47_) fun x79_ =>
  rec28_ x73_ false (parts + 1) x79_
def ad1 (a : Bool) : List Nat := if a = true then [1100] else []
theorem raS {T : TxT} {N : Nat} {cmp : Int32} {K : List Nat} {d : Nat} {Q : RaT → Prop} {s0 : St} (hN : N ≤ 400) : ∀ (f M p parts : Nat) (adding : Bool) (s : St) (out : List Nat), YC T N s K d out (sk T N p) → Fy s0 s → s 36 4 = s0 36 4 → p ≤ N → N - p < f → N - p + 1 < M → 2 * parts ≤ p → out.length + (ad1 adding).length ≤ p →
  (∀ e, bnP (partP T N p) (fun c p1 => bnP (sumL T N f p1) (fun c2 p2 => .inr (c ++ (ad1 adding ++ c2), p2))) = .inl e → ∀ s', TK T N s' e → Fy s0 s' → Q (.inl (false, s'))) →
  (∀ c p2, bnP (partP T N p) (fun c p1 => bnP (sumL T N f p1) (fun c2 p2 => .inr (c ++ (ad1 adding ++ c2), p2))) = .inr (c, p2) → ∀ s' M' parts', YC T N s' K d (out ++ c) p2 → Fy s0 s' → s' 36 4 = s0 36 4 → N - p2 < M' → 2 * parts' + 1 ≤ p2 → p2 ≤ N → Wo (raE (loop4 raB M') cmp (nI parts') s') Q) →
  Wo (loop4 raB M cmp adding (nI parts) s) Q
  | 0, M, p, parts, adding, s, out, hY, hF, h36, hp, h1, h2, h3, h4, hE, hO => absurd h1 (Nat.not_lt_zero _)
  | f + 1, 0, p, parts, adding, s, out, hY, hF, h36, hp, h1, h2, h3, h4, hE, hO => absurd h2 (Nat.not_lt_zero _)
  | f + 1, M + 1, p, parts, adding, s, out, hY, hF, h36, hp, h1, h2, h3, h4, hE, hO => by
    have hb := sk_b (T := T) hp
    show Wo (raB (loop4 raB M) cmp adding (nI parts) s) Q
    have hO' := fun c p2 h s' => hO c p2 h s' M
    have ih := fun p parts adding s out => raS (T := T) (N := N) (cmp := cmp) (K := K) (d := d) (Q := Q) (s0 := s0) hN f M p parts adding s out
    generalize hrec : loop4 raB M = rec at hO' ih
    unfold raB
    rw [if_pos (show nI parts < 400 from nI_lt (b := 400) (by omega) (by decide))]
    obtain ⟨⟨r1, r2⟩, er, hr⟩ := readPart_ok hY (by omega)
    rw [er]
    simp only [Option.bind_some]
    unfold partP at hE hO'
    cases hc : pcode T N (sk T N p) with
    | none =>
      rw [hc] at hr hE
      obtain ⟨rfl, rfl⟩ := hr
      simp only [Bool.false_eq_true, not_false_eq_true, if_true]
      exact wo_some (hE _ rfl _ hY.1 hF)
    | some c =>
      rw [hc] at hr hE hO'
      obtain ⟨rfl, hr2, hr3, hr4⟩ := hr
      dsimp only at hr2 hr3 hr4
      have hcb := pcode_b hc hb.2
      have ht := te_b (T := T) hb.2
      have ht2 := ht.2.2 hcb.1
      have hb1 := sk_b (T := T) ht.2.1
      simp only [not_true_eq_false, if_false]
      have hadd : Wo (if adding = true then (Option.bind (q2_emit r2 36 1100) fun x54_ => some (x54_)) else (some r2)) (fun y => YC T N y K d (out ++ ([c] ++ ad1 adding)) (sk T N (te T N (sk T N p))) ∧ Fy s0 y ∧ y 36 4 = s0 36 4) := by
        cases adding with
        | true =>
          rw [if_pos rfl]
          have h4 : out.length + 1 ≤ p := h4
          obtain ⟨v, ev, v1, v2, v3, -⟩ := emit_ok (c := 1100) hr2 (by rw [List.length_append]; show out.length + 1 < 412; omega)
          have ev : q2_emit r2 36 1100 = some v := ev
          rw [ev]
          refine wo_some ⟨?_, (hF.tr hr3).tr v2, by rw [v3, hr4]; exact h36⟩
          rw [List.append_assoc] at v1
          exact v1
        | false =>
          rw [if_neg (by decide)]
          exact wo_some ⟨hr2, hF.tr hr3, by rw [hr4]; exact h36⟩
      obtain ⟨y, ey, y1, y2, y3⟩ := hadd
      rw [ey]
      simp only [Option.bind_some]
      rw [sign_ok y1.1 (by decide)]
      simp only [Option.bind_some]
      have hE : ∀ e, bnP (sumL T N (f + 1) (te T N (sk T N p))) (fun c2 p2 => .inr ([c] ++ (ad1 adding ++ c2), p2)) = .inl e → ∀ s', TK T N s' e → Fy s0 s' → Q (.inl (false, s')) := hE
      have hO' : ∀ c' p2, bnP (sumL T N (f + 1) (te T N (sk T N p))) (fun c2 p2 => .inr ([c] ++ (ad1 adding ++ c2), p2)) = .inr (c', p2) → ∀ s' parts', YC T N s' K d (out ++ c') p2 → Fy s0 s' → s' 36 4 = s0 36 4 → N - p2 < M → 2 * parts' + 1 ≤ p2 → p2 ≤ N → Wo (raE rec cmp (nI parts') s') Q := hO'
      unfold sumL at hE hO'
      have hlen : (out ++ ([c] ++ ad1 adding)).length ≤ sk T N (te T N (sk T N p)) := by
        rw [List.length_append, List.length_append]
        show out.length + (1 + (ad1 adding).length) ≤ _
        omega
      cases hs : sg T N (sk T N (te T N (sk T N p))) 43 with
      | false =>
        rw [hs, if_neg (by decide)] at hO'
        have := hO' _ _ rfl y parts (by
          rw [List.append_nil]
          exact y1) y2 y3 (by omega) (by omega) hb1.2
        unfold raE at this
        by_cases hcm : cmp = -1
        · rw [if_neg (not_not_intro hcm)] at this
          rw [if_neg (fun q => q.2 hcm), if_pos (by decide)]
          exact this
        · rw [if_pos hcm] at this
          rw [if_pos ⟨by decide, hcm⟩]
          exact this
      | true =>
        have hl := (sg_b hs).1
        rw [hs, if_pos rfl] at hE hO'
        simp only [not_true_eq_false, false_and, if_false]
        obtain ⟨z, ez, z1, z2⟩ := adv_ok y1.1
        rw [te_sg hs (by decide)] at z1
        rw [ez]
        simp only [Option.bind_some]
        rw [nI_1]
        have hdec : ∀ r : PR, bnP (bnP r (fun c_1 p1 => bnP (sumL T N f p1) (fun c2 p2 => .inr (c_1 ++ 1100 :: c2, p2)))) (fun c2 p2 => .inr ([c] ++ (ad1 adding ++ c2), p2)) = bnP r (fun c_1 p1 => bnP (sumL T N f p1) (fun c2 p2 => .inr ([c] ++ (ad1 adding ++ (c_1 ++ 1100 :: c2)), p2))) := fun r => by
          rcases r with e | ⟨c1, p1⟩
          · rfl
          · show bnP (bnP (sumL T N f p1) _) _ = bnP (sumL T N f p1) _
            rcases sumL T N f p1 with e | ⟨c2, p2⟩ <;> rfl
        rw [hdec] at hE hO'
        refine ih (sk T N (te T N (sk T N p)) + 1) (parts + 1) true z (out ++ ([c] ++ ad1 adding)) (y1.mv1 z1 z2) (y2.tr (fy1 z2)) (by rw [z2 36 (by decide)]; exact y3) (by omega) (by omega) (by omega) (by omega) (by show _ + 1 ≤ _; omega) (fun e he s' t1 t2 => ?_) (fun c' p2 he s' M' parts' t1 t2 t3 t4 t5 t6 => ?_)
        · refine hE e ?_ s' t1 t2
          rcases hpp : partP T N (sk T N (te T N (sk T N p)) + 1) with e1 | ⟨c1, p1⟩
          · rw [hpp] at he
            exact he
          · rw [hpp] at he
            have he : bnP (sumL T N f p1) (fun c2 p2 => .inr (c1 ++ (ad1 true ++ c2), p2)) = .inl e := he
            show bnP (sumL T N f p1) _ = _
            rcases hss : sumL T N f p1 with e1 | ⟨c2, p2⟩
            · rw [hss] at he
              exact he
            · rw [hss] at he
              cases he
        · rcases hpp : partP T N (sk T N (te T N (sk T N p)) + 1) with e1 | ⟨c1, p1⟩
          · rw [hpp] at he
            cases he
          · rw [hpp] at he
            have he : bnP (sumL T N f p1) (fun c2 p2 => .inr (c1 ++ (ad1 true ++ c2), p2)) = .inr (c', p2) := he
            rcases hss : sumL T N f p1 with e1 | ⟨c2, p3⟩
            · rw [hss] at he
              cases he
            · rw [hss] at he
              cases he
              refine hO ([c] ++ (ad1 adding ++ (c1 ++ 1100 :: c2))) p2 ?_ s' M' parts' ?_ t2 t3 t4 t5 t6
              · unfold partP
                rw [hc]
                show bnP (sumL T N (f + 1) (te T N (sk T N p))) _ = _
                unfold sumL
                rw [if_pos hs, hdec, hpp]
                show bnP (sumL T N f p1) _ = _
                rw [hss]
                rfl
              · have e1 : out ++ ([c] ++ ad1 adding) ++ (c1 ++ (ad1 true ++ c2)) = out ++ ([c] ++ (ad1 adding ++ (c1 ++ 1100 :: c2))) := by
                  show out ++ ([c] ++ ad1 adding) ++ (c1 ++ ([1100] ++ c2)) = _
                  simp only [List.append_assoc, List.cons_append, List.nil_append]
                rw [e1] at t1
                exact t1

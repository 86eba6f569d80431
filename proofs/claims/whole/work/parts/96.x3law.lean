/-! LAYER 2: THE LAW IS WEIGHED -/
def SgP (r : PR) : Prop := match r with
  | .inl _ => True
  | .inr (c, _) => Sg c
theorem sgp_bn {r : PR} {f : List Nat → Nat → PR} (h : SgP r) (k : ∀ c p1, Sg c → SgP (f c p1)) : SgP (bnP r f) := by
  rcases r with e | ⟨c, p1⟩
  · trivial
  · exact k c p1 h
theorem sg_app {a b : List Nat} (h : Sg a) (h' : Sg b) : Sg (a ++ b) := fun x hx => (List.mem_append.mp hx).elim (h x) (h' x)
theorem sg_1 {c : Nat} (h : c < 2000) : Sg [c] := fun x hx => by rw [List.mem_singleton.mp hx]; exact h
theorem sg_0 : Sg [] := fun x hx => absurd hx List.not_mem_nil
theorem sgp_part {T : TxT} {N p : Nat} (hp : p ≤ N) : SgP (partP T N p) := by
  unfold partP
  cases h : pcode T N (sk T N p) with
  | none => trivial
  | some c => exact sg_1 (by have := (pcode_b h (sk_b hp).2).2; omega)
theorem sgp_sumL {T : TxT} {N : Nat} : ∀ f p, p ≤ N → SgP (sumL T N f p)
  | 0, p, hp => sg_0
  | f + 1, p, hp => by
    have hb := sk_b (T := T) hp
    unfold sumL
    split
    · next h =>
      have := (sg_b h).1
      have hg := gd_part (T := T) (N := N) (p := sk T N p + 1) (by omega)
      have h1 := sgp_part (T := T) (N := N) (p := sk T N p + 1) (by omega)
      cases hr : partP T N (sk T N p + 1) with
      | inl e => trivial
      | inr v =>
        obtain ⟨c, p1⟩ := v
        rw [hr] at hg h1
        show SgP (bnP (sumL T N f p1) (fun c2 p2 => .inr (c ++ 1100 :: c2, p2)))
        exact sgp_bn (sgp_sumL f p1 hg.2.1) (fun c2 p2 h2 => sg_app h1 (sg_cons (by omega) h2))
    · exact sg_0
theorem sgp_sum {T : TxT} {N p : Nat} (hp : p ≤ N) : SgP (sumP T N p) := by
  unfold sumP
  have hg := gd_part (T := T) (N := N) (p := p) hp
  have h1 := sgp_part (T := T) (N := N) (p := p) hp
  cases hr : partP T N p with
  | inl e => trivial
  | inr v =>
    obtain ⟨c, p1⟩ := v
    rw [hr] at hg h1
    show SgP (bnP (sumL T N (N + 1) p1) (fun c2 p2 => .inr (c ++ c2, p2)))
    exact sgp_bn (sgp_sumL (N + 1) p1 hg.2.1) (fun c2 p2 h2 => sg_app h1 h2)
theorem sgp_plain {T : TxT} {N p : Nat} (hp : p ≤ N) : SgP (plainP T N p) := by
  unfold plainP
  split
  · exact sg_1 (by omega)
  · split
    · exact sg_1 (by omega)
    · have hg := gd_sum (T := T) (N := N) (p := p) hp
      have h1 := sgp_sum (T := T) (N := N) (p := p) hp
      cases hr : sumP T N p with
      | inl e => trivial
      | inr v =>
        obtain ⟨c, p1⟩ := v
        rw [hr] at hg h1
        have hp1 : p1 ≤ N := hg.2.1
        have hb1 := sk_b (T := T) hp1
        show SgP (if sg T N (sk T N p1) 60 = true then _ else _)
        split
        · next h =>
          have := (sg_b h).1
          exact sgp_bn (sgp_sum (by omega)) (fun c2 p2 h2 => sg_app h1 (sg_app h2 (sg_1 (by omega))))
        · split
          · next h =>
            have := (sg_b h).1
            exact sgp_bn (sgp_sum (by omega)) (fun c2 p2 h2 => sg_app h1 (sg_app h2 (sg_1 (by omega))))
          · trivial
theorem sgp_rowL {T : TxT} {N w k : Nat} {A : Nat → PR} (gA : GdA N A) (hA : ∀ p, p ≤ N → SgP (A p)) (hw : w < 46) (hk : k < 2000) : ∀ f p, p ≤ N → SgP (rowL T N w k A f p)
  | 0, p, hp => sg_0
  | f + 1, p, hp => by
    have hb := sk_b (T := T) hp
    unfold rowL
    split
    · next h =>
      have hl := wd_b h hw hb.2
      have hg := gA (te T N (sk T N p)) hl.2.1
      have h1 := hA (te T N (sk T N p)) hl.2.1
      cases hr : A (te T N (sk T N p)) with
      | inl e => trivial
      | inr v =>
        obtain ⟨c, p1⟩ := v
        rw [hr] at hg h1
        show SgP (bnP (rowL T N w k A f p1) (fun c2 p2 => .inr (c ++ k :: c2, p2)))
        exact sgp_bn (sgp_rowL gA hA hw hk f p1 hg.2.1) (fun c2 p2 h2 => sg_app h1 (sg_cons hk h2))
    · exact sg_0
theorem sgp_row {T : TxT} {N w k : Nat} {A : Nat → PR} (gA : GdA N A) (hA : ∀ p, p ≤ N → SgP (A p)) (hw : w < 46) (hk : k < 2000) (p : Nat) (hp : p ≤ N) : SgP (rowP T N w k A p) := by
  unfold rowP
  have hg := gA p hp
  have h1 := hA p hp
  cases hr : A p with
  | inl e => trivial
  | inr v =>
    obtain ⟨c, p1⟩ := v
    rw [hr] at hg h1
    show SgP (bnP (rowL T N w k A (N + 1) p1) (fun c2 p2 => .inr (c ++ c2, p2)))
    exact sgp_bn (sgp_rowL gA hA hw hk (N + 1) p1 hg.2.1) (fun c2 p2 h2 => sg_app h1 h2)
theorem sgp_at {T : TxT} {N : Nat} : ∀ r p, p ≤ N → SgP (atP T N r p)
  | 0, p, hp => by
    unfold atP
    split
    · trivial
    · split
      · trivial
      · exact sgp_plain hp
  | r + 1, p, hp => by
    have hb := sk_b (T := T) hp
    unfold atP
    split
    · next h =>
      have hl := wd_b h (by decide) hb.2
      exact sgp_bn (sgp_at r _ hl.2.1) (fun c p1 h2 => sg_app h2 (sg_1 (by omega)))
    · split
      · next h =>
        have := (sg_b h).1
        refine sgp_bn (sgp_row (gd_row (gd_at r) (by decide)) (fun q hq => sgp_row (gd_at r) (sgp_at r) (by decide) (by omega) q hq) (by decide) (by omega) _ (by omega)) (fun c p1 h2 => ?_)
        split
        · exact h2
        · trivial
      · exact sgp_plain hp
theorem sg_line {T : TxT} {N q p1 : Nat} {l : List Nat × Nat} (hq : q ≤ N) (h : lineP T N q = .inr (l, p1)) : Sg l.1 := by
  have hif : ∀ (L p : Nat), p ≤ N → ∀ l p1, ifP T N L p = .inr (l, p1) → Sg l.1 := fun L p hp l p1 hi => by
    have hb := sk_b (T := T) hp
    unfold ifP at hi
    split at hi
    · next hw =>
      have hl := wd_b hw (by decide) hb.2
      have hs : SgP (smP T N (atP T N 6) (te T N (sk T N p))) := sgp_row (gd_row (gd_at 6) (by decide)) (fun q hq => sgp_row (gd_at 6) (sgp_at 6) (by decide) (by omega) q hq) (by decide) (by omega) _ hl.2.1
      cases hr : smP T N (atP T N 6) (te T N (sk T N p)) with
      | inl e => rw [hr] at hi; cases hi
      | inr v =>
        obtain ⟨c, p2⟩ := v
        rw [hr] at hi hs
        cases hi
        exact hs
    · cases hi
      exact sg_1 (by omega)
  have hb := sk_b (T := T) hq
  unfold lineP at h
  have hnum : ∀ (w K : Nat), wd T N (sk T N q) w = true → w < 46 → (match nm T N (sk T N (te T N (sk T N q))) 20 with | none => .inl (sk T N (te T N (sk T N q))) | some v => ifP T N (K + v) (te T N (sk T N (te T N (sk T N q))))) = (.inr (l, p1) : LnR) → Sg l.1 := fun w K hw hw2 hh => by
    have hl := wd_b hw hw2 hb.2
    have hb2 := sk_b (T := T) hl.2.1
    have ht2 := te_b (T := T) hb2.2
    cases hn : nm T N (sk T N (te T N (sk T N q))) 20 with
    | none => rw [hn] at hh; cases hh
    | some v => rw [hn] at hh; exact hif _ _ ht2.2.1 l p1 hh
  split at h
  · next hw => exact hnum 19 2000 hw (by decide) h
  · split at h
    · next hw => exact hnum 20 3000 hw (by decide) h
    · split at h
      · next hw => exact hif _ _ (wd_b hw (by decide) hb.2).2.1 l p1 h
      · cases h
theorem s1_len {F : Nat → Int32} {c : Nat} {st st' : List Int32} (h : s1 F c st = some st') (hl : st.length ≤ 32) : st'.length ≤ 32 := by
  unfold s1 at h
  split at h
  · split at h
    · next hc => cases h; show st.length + 1 ≤ 32; omega
    · cases h
  · split at h
    · match st, h, hl with
      | x :: s, h, hl => cases h; exact hl
    · match st, h, hl with
      | y :: x :: s, h, hl =>
        cases h
        have hl : s.length + 2 ≤ 32 := hl
        show s.length + 1 ≤ 32
        omega
theorem wg_c {s0 : St} {F : Nat → Int32} {code : List Nat} {Q : Int32 × Int32 × St → Prop} (hl : code.length ≤ 400) : ∀ (c : List Nat) (st st' : List Int32) (i M : Nat) (w : St), WS s0 F code st w → st.length ≤ 32 → i + c.length ≤ code.length → (∀ j, j < c.length → ofL code (i + j) = ofL c j) → Sg c → rn F c st = some st' → (∀ w', WS s0 F code st' w' → w' 32 5 = w 32 5 → w' 32 6 = w 32 6 → Wo (loop3 (wgB 32) M (nI st'.length) (nI (i + c.length)) w') Q) → Wo (loop3 (wgB 32) (M + c.length) (nI st.length) (nI i) w) Q
  | [], st, st', i, M, w, h, h32, hi, hc, hS, hr, k => by
    cases hr
    exact k w h rfl rfl
  | x :: c, st, st', i, M, w, h, h32, hi, hc, hS, hr, k => by
    have hi : i + (c.length + 1) ≤ code.length := hi
    rw [rn_c] at hr
    cases hs : s1 F x st with
    | none => rw [hs] at hr; cases hr
    | some st1 =>
      rw [hs] at hr
      have hr : rn F c st1 = some st' := hr
      show Wo (wgB 32 (loop3 (wgB 32) (M + c.length)) (nI st.length) (nI i) w) Q
      refine wg_1 h hl (by omega) (hc 0 (by show 0 < c.length + 1; omega)) (hS x (List.mem_cons_self ..)) h32 hs (fun w' h1 h2 h3 => ?_)
      refine wg_c hl c st1 st' (i + 1) M w' h1 (s1_len hs h32) (by omega) (fun j hj => ?_) (fun y hy => hS y (List.mem_cons_of_mem _ hy)) hr (fun w2 a1 a2 a3 => ?_)
      · have := hc (j + 1) (by show j + 1 < c.length + 1; omega)
        rw [show i + 1 + j = i + (j + 1) from by omega, this]
        rfl
      · have := k w2 a1 (a2.trans h2) (a3.trans h3)
        rw [show i + (x :: c).length = i + 1 + c.length from by show i + (c.length + 1) = _; omega] at this
        exact this
theorem hold_st {w : St} {L : Nat} {s : Int32 × Bool} (hL : 2000 ≤ L ∧ L ≤ 4000) (h5 : w 32 5 = s.1) (h6 : w 32 6 = b2i s.2) : ∃ w', q2_hold w 32 (nI L) = some w' ∧ w' 32 5 = (holdL L s).1 ∧ w' 32 6 = b2i (holdL L s).2 ∧ (∀ i, i ≠ 32 → w' i = w i) ∧ ∀ k, k ≠ 5 → k ≠ 6 → w' 32 k = w 32 k := by
  unfold q2_hold holdL
  dsimp only [lt]
  have e4 : (4000 : Int32) ≤ nI L ↔ 4000 ≤ L := by
    rw [← Int32.not_lt, show (4000 : Int32) = nI 4000 from rfl, nI_ltI (by omega) (by omega)]
    omega
  have e3 : (3000 : Int32) ≤ nI L ↔ 3000 ≤ L := by
    rw [← Int32.not_lt, show (3000 : Int32) = nI 3000 from rfl, nI_ltI (by omega) (by omega)]
    omega
  by_cases c4 : 4000 ≤ L
  · rw [if_pos (e4.mpr c4), if_pos c4]
    exact ⟨_, rfl, by rw [up_off (by decide)]; exact h5, up_at, fun i hi => up_pl hi, fun k _ k6 => up_off k6⟩
  · rw [if_neg (fun q => c4 (e4.mp q)), if_neg c4]
    by_cases c3 : 3000 ≤ L
    · rw [if_pos (e3.mpr c3), if_pos c3]
      exact ⟨_, rfl, by rw [up_at, h5, show (3000 : Int32) = nI 3000 from rfl, pk_sub c3], by rw [up_off (by decide)]; exact h6, fun i hi => up_pl hi, fun k k5 _ => up_off k5⟩
    · rw [if_neg (fun q => c3 (e3.mp q)), if_neg c3]
      exact ⟨_, rfl, by rw [up_at, h5, show (2000 : Int32) = nI 2000 from rfl, pk_sub hL.1], by rw [up_off (by decide)]; exact h6, fun i hi => up_pl hi, fun k k5 _ => up_off k5⟩
theorem wg_l {s0 : St} {F : Nat → Int32} {code : List Nat} (hl : code.length ≤ 400) : ∀ (ls : List (List Nat × Nat)) (i M : Nat) (w : St) (s : Int32 × Bool), WS s0 F code [] w → i + (cds ls).length = code.length → (∀ j, j < (cds ls).length → ofL code (i + j) = ofL (cds ls) j) → (∀ l, l ∈ ls → (2000 ≤ l.2 ∧ l.2 ≤ 4000) ∧ Sg l.1 ∧ ∃ x, rn F l.1 [] = some [b2i x]) → w 32 5 = s.1 → w 32 6 = b2i s.2 → Wo (loop3 (wgB 32) (M + 1 + (cds ls).length) 0 (nI i) w) (fun y => y.2.2 32 5 = (evLs F s ls).1 ∧ y.2.2 32 6 = b2i (evLs F s ls).2 ∧ (∀ i, i ≠ 32 → i ≠ 34 → y.2.2 i = s0 i) ∧ ∀ k, k ≠ 5 → k ≠ 6 → y.2.2 32 k = s0 32 k)
  | [], i, M, w, s, h, hi, hc, hL, h5, h6 => by
    have hi : i + 0 = code.length := hi
    show Wo (wgB 32 (loop3 (wgB 32) M) 0 (nI i) w) _
    generalize loop3 (wgB 32) M = rec
    unfold wgB
    rw [h.1, if_neg (fun q => by have := (nI_ltI (by omega) (by omega)).mp q.1; omega)]
    exact wo_some ⟨h5, h6, h.2.2.2.2.1, h.2.2.2.2.2⟩
  | l :: ls, i, M, w, s, h, hi, hc, hL, h5, h6 => by
    have hcd : cds (l :: ls) = l.1 ++ (l.2 :: cds ls) := by
      unfold cds
      rw [List.flatMap_cons, List.append_assoc]
      rfl
    rw [hcd] at hi hc ⊢
    rw [List.length_append] at hi ⊢
    have hi : i + (l.1.length + ((cds ls).length + 1)) = code.length := hi
    obtain ⟨l1, l2, x, l3⟩ := hL l (List.mem_cons_self ..)
    have hfu : M + 1 + (l.1.length + (l.2 :: cds ls).length) = (M + 1 + (cds ls).length + 1) + l.1.length := by
      show M + 1 + (l.1.length + ((cds ls).length + 1)) = _
      omega
    rw [hfu]
    refine wg_c hl l.1 [] [b2i x] i (M + 1 + (cds ls).length + 1) w h (by decide) (by omega) (fun j hj => ?_) l2 l3 (fun w' a1 a2 a3 => ?_)
    · rw [hc j (by rw [List.length_append]; show j < l.1.length + ((cds ls).length + 1); omega), ofL_app1 hj]
    · show Wo (wgB 32 (loop3 (wgB 32) (M + 1 + (cds ls).length)) (nI 1) (nI (i + l.1.length)) w') _
      have hih : ∀ (u : St) (s' : Int32 × Bool), WS s0 F code [] u → u 32 5 = s'.1 → u 32 6 = b2i s'.2 → Wo (loop3 (wgB 32) (M + 1 + (cds ls).length) 0 (nI (i + l.1.length + 1)) u) (fun y => y.2.2 32 5 = (evLs F s' ls).1 ∧ y.2.2 32 6 = b2i (evLs F s' ls).2 ∧ (∀ i, i ≠ 32 → i ≠ 34 → y.2.2 i = s0 i) ∧ ∀ k, k ≠ 5 → k ≠ 6 → y.2.2 32 k = s0 32 k) := fun u s' hu hu5 hu6 => by
        refine wg_l hl ls (i + l.1.length + 1) M u s' hu (by omega) (fun j hj => ?_) (fun l' hl' => hL l' (List.mem_cons_of_mem _ hl')) hu5 hu6
        have := hc (l.1.length + (j + 1)) (by rw [List.length_append]; show l.1.length + (j + 1) < l.1.length + ((cds ls).length + 1); omega)
        rw [ofL_app2] at this
        rw [show i + l.1.length + 1 + j = i + (l.1.length + (j + 1)) from by omega, this]
        rfl
      generalize loop3 (wgB 32) (M + 1 + (cds ls).length) = rec at hih
      have hcL : ofL code (i + l.1.length) = l.2 := by
        have := hc l.1.length (by rw [List.length_append]; show l.1.length < l.1.length + ((cds ls).length + 1); omega)
        rw [this]
        have h2 := ofL_app2 (l := l.1) (l' := l.2 :: cds ls) (k := 0)
        rw [Nat.add_zero] at h2
        rw [h2]
        rfl
      have a1' := a1
      obtain ⟨b1, b2, b3, b4, b5, b6⟩ := a1'
      unfold wgB
      rw [b1, if_pos ⟨nI_lt (by omega) (by omega), (nI_lt (b := 412) (by omega) (by decide) : nI (i + l.1.length) < 412)⟩]
      show Wo (Option.bind (ag w' 33 412 (nI (i + l.1.length))) _) _
      rw [ag_nI (k := i + l.1.length) rfl (by omega) (by decide), b2 _ (by omega), hcL]
      simp only [Option.bind_some]
      have e2 : (2000 : Int32) ≤ nI l.2 := by
        rw [← Int32.not_lt, show (2000 : Int32) = nI 2000 from rfl, nI_ltI (by omega) (by omega)]
        omega
      rw [if_neg (fun q => by have := (nI_ltI (a := l.2) (b := 1009) (by omega) (by decide)).mp q.1; omega), if_pos e2, if_pos (show (0 : Int32) < nI 1 by decide)]
      have h34 : w' 34 0 = b2i x := b4 0 (by show 0 < 1; omega)
      show Wo (Option.bind (Option.bind (Option.bind (Option.bind (Option.bind (ag w' 34 32 (nI 1 - 1)) _) _) _) _) _) _
      rw [ag_nI (k := 0) (by decide) (by decide) (by decide), h34]
      simp only [Option.bind_some]
      have hev : evLs F s (l :: ls) = evLs F (evL F s l) ls := rfl
      rw [hev, nI_1]
      have hw0 : ∀ u : St, (∀ i, i ≠ 32 → u i = w' i) → (∀ k, k ≠ 5 → k ≠ 6 → u 32 k = w' 32 k) → WS s0 F code [] u := fun u u1 u2 => ⟨by rw [u2 3 (by decide) (by decide)]; exact b1, fun k hk => by rw [u1 33 (by decide)]; exact b2 k hk, fun j hj => by rw [u1 35 (by decide)]; exact b3 j hj, fun j hj => absurd hj (Nat.not_lt_zero _), fun i i1 i2 => by rw [u1 i i1]; exact b5 i i1 i2, fun k k1 k2 => by rw [u2 k k1 k2]; exact b6 k k1 k2⟩
      cases x with
      | true =>
        have he : evL F s l = holdL l.2 s := by
          unfold evL
          rw [l3, if_pos (show some [b2i true] = some [(1 : Int32)] from rfl)]
        rw [he, if_pos (show b2i true = 1 from rfl)]
        simp only [Option.bind_some, if_true]
        obtain ⟨u, eu, u1, u2, u3, u4⟩ := hold_st (w := w') (L := l.2) (s := s) l1 (a2.trans h5) (a3.trans h6)
        rw [eu]
        exact hih u (holdL l.2 s) (hw0 u u3 u4) u1 u2
      | false =>
        have he : evL F s l = s := by
          unfold evL
          rw [l3, if_neg (by decide)]
        rw [he, if_neg (show ¬ b2i false = 1 by decide)]
        simp only [Option.bind_some, Bool.false_eq_true, if_false]
        exact hih w' s (hw0 w' (fun _ _ => rfl) (fun _ _ _ => rfl)) (a2.trans h5) (a3.trans h6)

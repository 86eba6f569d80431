/-! LAYER 2: THE OTHER LINES OF A VILLAGE -/
theorem ln_tel {T : TxT} {N p n k c : Nat} {s w : St} {H : Int32} (h : VL T N s w p n) (hc : c < 352) (c0 : c ≠ 0) (c1 : c ≠ 1) (c2 : c ≠ 2) (hput : ∀ (s1 w1 : St) (v : Nat), v ≤ 999 → nI v ≤ H → Wk 54 n s1 w1 → RVd (du (vd s1 54) 0 k (nI v)) (mu (w1 1) c (nI v)) n ∧ WFm (mu (w1 1) c (nI v)) n) : LnV T N s w (Option.bind (q6_numberFollows s H) fun x31_ => some (decide (¬ (up x31_.2 54 k x31_.1 54 k) = (-1)), up x31_.2 54 k x31_.1)) (q12_tells (up w 0 11 (nI (te T N (sk T N p)))) (nI c) 0 H) := by
  obtain ⟨h1, h2, h3, hV, hW⟩ := h
  have hN := h2.1.1
  have hb := sk_b (T := T) h2.2.1
  have ht := te_b (T := T) hb.2
  have hP : PM T N (up w 0 11 (nI (te T N (sk T N p)))) (te T N (sk T N p)) := h2.of ht.2.1
  have hP12 : up w 0 11 (nI (te T N (sk T N p))) 0 12 = -1 := by rw [up_off (by decide)]; exact h3
  obtain ⟨x, s', e1, f1, hx⟩ := nF_d (H := H) h1
  rw [e1]
  simp only [Option.bind_some]
  rw [up_at]
  unfold q12_tells
  have F : Fc54 s (up s' 54 k x) := (Fc54.rf.ad f1).up (by decide)
  rcases hx with ⟨e, a1, rfl, a2⟩ | ⟨v, p1, a1, rfl, a2, a3, a4, a5⟩
  · rcases fg_d (H := H) hP hP12 with ⟨e', b1, b2, x, q, b3, b4⟩ | ⟨v, p1, b1, b2, b3, b4, b5⟩
    · rw [a1] at b1
      cases b1
      rw [b4]
      simp only [Option.bind_some]
      rw [if_neg (show ¬ up (up (up w 0 11 (nI (te T N (sk T N p)))) 0 11 (nI q)) 0 12 (nI e) 0 12 = -1 by rw [up_at]; exact nI_m1 (by omega))]
      simp only [Option.bind_some]
      rw [decide_eq_false (fun q => q trivial), up_up]
      exact LnV.er b2 (a2.vu (by decide)) ⟨q, b3, rfl⟩ F
    · rw [a1] at b1; cases b1
  · rcases fg_d (H := H) hP hP12 with ⟨e', b1, b2, x, q, b3, b4⟩ | ⟨v', p1', b1, b2, b3, b4, b5⟩
    · rw [a1] at b1; cases b1
    · rw [a1] at b1
      cases b1
      rw [b5]
      simp only [Option.bind_some]
      rw [if_pos (show up (up w 0 11 (nI (te T N (sk T N p)))) 0 11 (nI p1) 0 12 = -1 by rw [up_off (by decide)]; exact hP12), sa_nI (k := c) rfl (by omega) (by decide)]
      simp only [Option.bind_some]
      rw [decide_eq_true (nI_m1 (by omega)), up_up]
      have hk1 : Wk 54 n s' (up w 0 11 (nI p1)) := ⟨hV.mv (fun j hj => f1 _ (by omega)), by rw [up_pl (by decide)]; exact hW⟩
      have hk1 : Wk 54 n s' (up w 0 11 (nI p1)) := ⟨by rw [up_pl (by decide)]; exact hk1.1, hk1.2⟩
      obtain ⟨g1, g2⟩ := hput s' (up w 0 11 (nI p1)) v a2 a3 hk1
      have fr : Fr54 w (up (up w 0 11 (nI p1)) 1 c (nI v)) := Fr54.u11.tr (Fr54.u1 c0 c1 c2 hc)
      refine Or.inr ⟨_, _, p1, n, rfl, rfl, ⟨a5.vu (by decide), ⟨fr.lt h2.1, a4, ?_⟩, ?_, ?_, ?_⟩, F, fr⟩
      · rw [up_pl (by decide), up_at]
      · rw [up_pl (by decide), up_off (by decide)]; exact h3
      · rw [vd_du0, up_mu]; exact g1
      · rw [up_mu]; exact g2
/-! grist -/
def ssP (T : TxT) (N b : Nat) : Option Nat := if wd T N b 9 = true then some 0 else if wd T N b 10 = true then some 1 else if wd T N b 11 = true then some 2 else if wd T N b 12 = true then some 3 else none
theorem ssP_b {T : TxT} {N b g : Nat} (h : ssP T N b = some g) : g < 4 := by
  unfold ssP at h
  repeat (split at h; · cases h; decide)
  cases h
theorem ss_C {T : TxT} {N b : Nat} {s : St} (h : TK T N s b) : q6_seasonHere s = some (oI (ssP T N b)) := by
  unfold q6_seasonHere ssP
  rw [word_ok h (by decide), word_ok h (by decide), word_ok h (by decide), word_ok h (by decide)]
  simp only [Option.bind_some]
  cases wd T N b 9 <;> cases wd T N b 10 <;> cases wd T N b 11 <;> cases wd T N b 12 <;> rfl
theorem ss_M {T : TxT} {N p : Nat} {w : St} (h : PM T N w p) : (Option.bind (q12_has w 9) fun x6_ =>
  if x6_.1 = true then (some ((0 : Int32), x6_.2)) else (Option.bind (Option.bind (q12_has x6_.2 10) fun x14_ =>
  if x14_.1 = true then (some ((1 : Int32), x14_.2)) else (Option.bind (Option.bind (q12_has x14_.2 11) fun x22_ =>
  if x22_.1 = true then (some ((2 : Int32), x22_.2)) else (Option.bind (Option.bind (q12_has x22_.2 12) fun x30_ =>
  if x30_.1 = true then (some ((3 : Int32), x30_.2)) else (some ((-1 : Int32), x30_.2))) fun x25_ =>
  some (x25_.1, x25_.2))) fun x17_ =>
  some (x17_.1, x17_.2))) fun x9_ =>
  some (x9_.1, x9_.2))) = some (oI (ssP T N (sk T N p)), up w 0 11 (nI (if ssP T N (sk T N p) = none then sk T N p else te T N (sk T N p)))) := by
  have hb := sk_b (T := T) h.2.1
  have hP : PM T N (up w 0 11 (nI (sk T N p))) (sk T N p) := h.of hb.2
  have hh : ∀ k, k < 46 → q12_has (up w 0 11 (nI (sk T N p))) k = some (wd T N (sk T N p) k, up w 0 11 (nI (if wd T N (sk T N p) k = true then te T N (sk T N p) else sk T N p))) := fun k hk => by rw [has12 hP hk, sk_sk h.2.1, up_up]
  unfold ssP
  rw [has12 h (by decide)]
  simp only [Option.bind_some]
  cases wd T N (sk T N p) 9 with
  | true => rfl
  | false =>
    simp only [Bool.false_eq_true, if_false]
    rw [hh 10 (by decide)]
    simp only [Option.bind_some]
    cases wd T N (sk T N p) 10 with
    | true => rfl
    | false =>
      simp only [Bool.false_eq_true, if_false]
      rw [hh 11 (by decide)]
      simp only [Option.bind_some]
      cases wd T N (sk T N p) 11 with
      | true => rfl
      | false =>
        simp only [Bool.false_eq_true, if_false]
        rw [hh 12 (by decide)]
        simp only [Option.bind_some]
        cases wd T N (sk T N p) 12 with
        | true => rfl
        | false => rfl
theorem ln_gri {T : TxT} {N p n : Nat} {s w : St} (h : VL T N s w p n) : LnV T N s w (q6_readGrist s) (q12_gristLine (up w 0 11 (nI (te T N (sk T N p))))) := by
  obtain ⟨h1, h2, h3, hV, hW⟩ := h
  have hN := h2.1.1
  have hb := sk_b (T := T) h2.2.1
  have ht := te_b (T := T) hb.2
  have hb2 := sk_b (T := T) ht.2.1
  have ht2 := te_b (T := T) hb2.2
  have hP : PM T N (up w 0 11 (nI (te T N (sk T N p)))) (te T N (sk T N p)) := h2.of ht.2.1
  have hP12 : ∀ x, up w 0 11 x 0 12 = -1 := fun x => by rw [up_off (by decide)]; exact h3
  unfold q6_readGrist q12_gristLine
  obtain ⟨s1, e1, t1, f1⟩ := adv_ok h1
  rw [e1]
  simp only [Option.bind_some]
  rw [ss_C t1, ss_M hP]
  simp only [Option.bind_some]
  rw [up_up]
  cases hs : ssP T N (sk T N (te T N (sk T N p))) with
  | none =>
    rw [if_pos rfl, if_pos (show oI none = -1 from rfl), if_pos (show oI none = -1 from rfl), here_ok (h2.of hb2.2), sk_sk ht.2.1]
    simp only [Option.bind_some]
    rw [up_up, wrong_ok (hP12 _)]
    simp only [Option.bind_some]
    have no : ¬ up (up w 0 11 (nI (sk T N (te T N (sk T N p))))) 0 12 (nI (sk T N (te T N (sk T N p)))) 0 12 = -1 := by rw [up_at]; exact nI_m1 (by omega)
    rw [fig_no no]
    simp only [Option.bind_some]
    rw [if_neg no]
    exact LnV.er hb2.2 t1 ⟨_, hb2.2, rfl⟩ (Fc54.rf.ad f1)
  | some g =>
    have hg := ssP_b hs
    have g1 : ¬ oI (some g) = -1 := nI_m1 (by omega)
    rw [if_neg (show ¬ some g = none from fun q => by cases q), if_neg g1, if_neg g1]
    have hP2 : PM T N (up w 0 11 (nI (te T N (sk T N (te T N (sk T N p)))))) (te T N (sk T N (te T N (sk T N p)))) := h2.of ht2.2.1
    obtain ⟨x, s2, e2, f2, hx⟩ := nF_d (H := 99) t1
    rw [e2]
    simp only [Option.bind_some]
    rw [show sa s2 (54 + 7) 4 (oI (some g)) x = some (up s2 61 g x) from sa_nI (k := g) rfl hg (by decide)]
    simp only [Option.bind_some]
    rw [show ag (up s2 61 g x) (54 + 7) 4 (oI (some g)) = some (up s2 61 g x 61 g) from ag_nI (k := g) rfl hg (by decide), up_at]
    simp only [Option.bind_some]
    have F : Fc54 s (up s2 61 g x) := ((Fc54.rf.ad f1).ad f2).up (by decide)
    rcases hx with ⟨e, a1, rfl, a2⟩ | ⟨v, p1, a1, rfl, a2, a3, a4, a5⟩
    · rcases fg_d (H := 99) hP2 (hP12 _) with ⟨e', b1, b2, x, q, b3, b4⟩ | ⟨v, p1, b1, b2, b3, b4, b5⟩
      · rw [a1] at b1
        cases b1
        rw [b4]
        simp only [Option.bind_some]
        rw [if_neg (show ¬ up (up (up w 0 11 (nI (te T N (sk T N (te T N (sk T N p)))))) 0 11 (nI q)) 0 12 (nI e) 0 12 = -1 by rw [up_at]; exact nI_m1 (by omega)), if_neg (fun q => q trivial)]
        simp only [Option.bind_some]
        rw [up_up]
        exact LnV.er b2 (a2.vu (by decide)) ⟨q, b3, rfl⟩ F
      · rw [a1] at b1; cases b1
    · rcases fg_d (H := 99) hP2 (hP12 _) with ⟨e', b1, b2, x, q, b3, b4⟩ | ⟨v', p1', b1, b2, b3, b4, b5⟩
      · rw [a1] at b1; cases b1
      · rw [a1] at b1
        cases b1
        rw [b5]
        simp only [Option.bind_some]
        rw [up_up, if_pos (hP12 _), if_pos (nI_m1 (show v < 2 ^ 31 by omega)), show ∀ z : St, sa z 1 752 (10 + oI (some g)) (nI v) = some (up z 1 (10 + g) (nI v)) from fun z => sa_nI (k := 10 + g) (nI_add 10 g) (by omega) (by decide)]
        simp only [Option.bind_some]
        have fr : Fr54 w (up (up w 0 11 (nI p1)) 1 (10 + g) (nI v)) := Fr54.u11.tr (Fr54.u1 (by omega) (by omega) (by omega) (by omega))
        have hVs : RVd (vd s2 54) (w 1) n := hV.mv (fun j hj => (f2 _ (by omega)).trans (f1 _ (by omega)))
        have v99 : v ≤ 99 := by
          have := (nI_leI (b := 99) (by omega) (by decide)).mp a3
          omega
        refine Or.inr ⟨_, _, p1, n, rfl, rfl, ⟨a5.vu (by decide), ⟨fr.lt h2.1, a4, ?_⟩, ?_, ?_, ?_⟩, F, fr⟩
        · rw [up_pl (by decide), up_at]
        · rw [up_pl (by decide)]; exact hP12 _
        · rw [show vd (up s2 61 g (nI v)) 54 = du (vd s2 54) 7 g (nI v) from vd_du (v := 54) (j := 7), up_mu, up_pl (by decide)]
          exact hVs.uG hg
        · rw [up_mu, up_pl (by decide)]
          exact hW.uG hV.1.1 hg (inR_nI v99)
/-! likes -/
theorem ln_lik {T : TxT} {N p n : Nat} {s w : St} (h : VL T N s w p n) : LnV T N s w (q6_readLikes s) (q12_likesLine (up w 0 11 (nI (te T N (sk T N p))))) := by
  obtain ⟨h1, h2, h3, hV, hW⟩ := h
  have hN := h2.1.1
  have hn := hV.1.1
  have hb := sk_b (T := T) h2.2.1
  have ht := te_b (T := T) hb.2
  have hP : PM T N (up w 0 11 (nI (te T N (sk T N p)))) (te T N (sk T N p)) := h2.of ht.2.1
  have hP12 : ∀ x, up w 0 11 x 0 12 = -1 := fun x => by rw [up_off (by decide)]; exact h3
  have h8 : s 54 8 = nI n := hV.1.2.1
  have a3 : ∀ z : St, z 1 = w 1 → ag z 1 752 3 = some (nI n) := fun z hz => by rw [show ag z 1 752 3 = some (z 1 3) from ag_nI (k := 3) rfl (by decide) (by decide), hz]; exact congrArg some hV.1.2.2
  unfold q6_readLikes q12_likesLine
  rw [h8, a3 _ (up_pl (by decide))]
  simp only [Option.bind_some]
  obtain ⟨x, s1, e1, f1, hx⟩ := nF_d (H := nI n - 1) h1
  rw [e1]
  simp only [Option.bind_some]
  rw [f1 54 (by decide), h8]
  have noG : ∀ (y : St) (x3 : Int32) (b : Int32), ¬ y 0 12 = -1 → (Option.bind (if (y 0 12) = (-1) ∧ (0 = x3) then (Option.bind (q12_wrong y b) fun x19_ => some (x19_)) else (some y)) fun y11_ => Option.bind (q12_figures y11_ 0 9) fun x21_ => Option.bind (if (x21_.2 0 12) = (-1) then (Option.bind (sa x21_.2 1 752 ((63 + (7 * x3)) + 0) x21_.1) fun σ30_ => some (σ30_)) else (some (x21_.2))) fun y23_ => some y23_) = some y := fun y x3 b no => by
    rw [if_neg (fun q => no q.1)]
    simp only [Option.bind_some]
    rw [fig_no no]
    simp only [Option.bind_some]
    rw [if_neg no]
    rfl
  rcases hx with ⟨e, a1, rfl, a2⟩ | ⟨v, p1, a1, rfl, a2, a4, a5, a6⟩
  · obtain ⟨z, ez⟩ : ∃ z, q8_numberUpTo s1 (nI n - 1) = some z := ⟨_, num_ok a2⟩
    rw [ez]
    simp only [Option.bind_some]
    rw [if_pos (show ((True ∨ z = -1) ∨ (-1 : Int32) = z) from Or.inl (Or.inl trivial))]
    rcases fg_d (H := nI n - 1) hP (hP12 _) with ⟨e', b1, b2, x, q, b3, b4⟩ | ⟨v, p1, b1, b2, b3, b4, b5⟩
    · rw [a1] at b1
      cases b1
      rw [b4]
      simp only [Option.bind_some]
      rw [up_up]
      have hbq := sk_b (T := T) b3
      have hPq : PM T N (up (up w 0 11 (nI q)) 0 12 (nI e)) q := (h2.of b3).u0 (by decide) (by decide) (by decide)
      rw [here_ok hPq]
      simp only [Option.bind_some]
      rw [up_cm (by decide), up_up]
      have no : ¬ up (up w 0 11 (nI (sk T N q))) 0 12 (nI e) 0 12 = -1 := by rw [up_at]; exact nI_m1 (by omega)
      rw [a3 _ (by rw [up_pl (by decide), up_pl (by decide)])]
      simp only [Option.bind_some]
      rw [fig_no no]
      simp only [Option.bind_some]
      rw [noG _ _ _ no]
      exact LnV.er b2 a2 ⟨_, hbq.2, rfl⟩ (Fc54.rf.ad f1)
    · rw [a1] at b1; cases b1
  · rcases fg_d (H := nI n - 1) hP (hP12 _) with ⟨e', b1, b2, x, q, b3, b4⟩ | ⟨v', p1', b1, b2, b3, b4, b5⟩
    · rw [a1] at b1; cases b1
    · rw [a1] at b1
      cases b1
      have n0 : 0 < n := by
        rcases Nat.eq_zero_or_pos n with q | q
        · subst q
          exact absurd (Int32.le_trans (show (0 : Int32) ≤ nI v from nI_leI (a := 0) (by decide) (by omega) |>.mpr (Nat.zero_le _)) a4) (by decide)
        · exact q
      have eH : nI n - 1 = nI (n - 1) := by
        have := nI_pred (n - 1)
        rw [show n - 1 + 1 = n from by omega] at this
        exact this
      rw [eH] at a4 ⊢
      have hvn : v < n := by
        have := (nI_leI (by omega) (by omega)).mp a4
        omega
      rw [eH] at b5
      rw [b5]
      simp only [Option.bind_some]
      rw [up_up]
      have hP1 : PM T N (up w 0 11 (nI p1)) p1 := h2.of a5
      have hb1 := sk_b (T := T) a5
      rw [here_ok hP1]
      simp only [Option.bind_some]
      rw [up_up, a3 _ (up_pl (by decide)), num_ok a6]
      simp only [Option.bind_some]
      rw [eH]
      have hP2 : PM T N (up w 0 11 (nI (sk T N p1))) (sk T N p1) := h2.of hb1.2
      have hF1 : Fc54 s s1 := Fc54.rf.ad f1
      have hnu : ∀ r, nuP T N (sk T N p1) (nI (n - 1)) = r → nuP T N p1 (nI (n - 1)) = r := fun r hr => by
        unfold nuP at hr ⊢
        rw [sk_sk a5] at hr
        exact hr
      rcases fg_d (H := nI (n - 1)) hP2 (hP12 _) with ⟨e', c1, c2, x, q, c3, c4⟩ | ⟨v2, p2, c1, c2, c3, c4, c5⟩
      · have hn2 : nm T N (sk T N p1) (nI (n - 1)) = none ∧ e' = sk T N p1 := by
          unfold nuP at c1
          rw [sk_sk a5] at c1
          cases hq : nm T N (sk T N p1) (nI (n - 1)) with
          | none => rw [hq] at c1; cases c1; exact ⟨rfl, rfl⟩
          | some v => rw [hq] at c1; cases c1
        obtain ⟨hn2, rfl⟩ := hn2
        rw [hn2, if_pos (show ((nI v = -1 ∨ oI none = -1) ∨ nI v = oI none) from Or.inl (Or.inr rfl)), c4]
        simp only [Option.bind_some]
        rw [up_up]
        have no : ¬ up (up w 0 11 (nI q)) 0 12 (nI (sk T N p1)) 0 12 = -1 := by rw [up_at]; exact nI_m1 (by omega)
        rw [if_neg (fun q => no q.1)]
        simp only [Option.bind_some]
        rw [fig_no no]
        simp only [Option.bind_some]
        rw [if_neg no]
        exact LnV.er hb1.2 a6 ⟨q, c3, rfl⟩ hF1
      · have hn2 : nm T N (sk T N p1) (nI (n - 1)) = some v2 ∧ p2 = te T N (sk T N p1) := by
          unfold nuP at c1
          rw [sk_sk a5] at c1
          cases hq : nm T N (sk T N p1) (nI (n - 1)) with
          | none => rw [hq] at c1; cases c1
          | some v => rw [hq] at c1; cases c1; exact ⟨rfl, rfl⟩
        obtain ⟨hn2, rfl⟩ := hn2
        have hv2 : v2 < n := by
          have := (nI_leI (by omega) (by omega)).mp c3
          omega
        rw [hn2, c5]
        simp only [Option.bind_some]
        rw [up_up]
        by_cases hvv : v = v2
        · subst hvv
          rw [if_pos (show ((nI v = -1 ∨ oI (some v) = -1) ∨ nI v = oI (some v)) from Or.inr rfl), if_pos ⟨hP12 _, rfl⟩, wrong_ok (hP12 _)]
          simp only [Option.bind_some]
          have no : ¬ up (up w 0 11 (nI (te T N (sk T N p1)))) 0 12 (nI (sk T N p1)) 0 12 = -1 := by rw [up_at]; exact nI_m1 (by omega)
          rw [fig_no no]
          simp only [Option.bind_some]
          rw [if_neg no]
          exact LnV.er hb1.2 a6 ⟨_, c4, rfl⟩ hF1
        · rw [if_neg (show ¬ ((nI v = -1 ∨ oI (some v2) = -1) ∨ nI v = oI (some v2)) from fun q => by
            rcases q with (q | q) | q
            · exact nI_m1 (by omega) q
            · exact nI_m1 (show v2 < 2 ^ 31 by omega) q
            · exact nIe (by omega) (by omega) hvv q), if_neg (fun q => nIe (by omega) (by omega) hvv q.2.symm)]
          simp only [Option.bind_some]
          obtain ⟨x, s2, e2, f2, hx⟩ := nF_d (H := 9) a6
          rw [e2]
          simp only [Option.bind_some]
          have i6 : nI v * 6 + oI (some v2) = nI (v * 6 + v2) := ix_6 v v2
          rw [show sa s2 (54 + 6) 36 (nI v * 6 + oI (some v2)) x = some (up s2 60 (v * 6 + v2) x) from sa_nI (k := v * 6 + v2) i6 (by omega) (by decide)]
          simp only [Option.bind_some]
          have hP3 : PM T N (up w 0 11 (nI (te T N (sk T N p1)))) (te T N (sk T N p1)) := h2.of c4
          have F : Fc54 s (up s2 60 (v * 6 + v2) x) := (hF1.ad f2).up (by decide)
          rcases hx with ⟨e, d1, rfl, d2⟩ | ⟨v3, p3, d1, rfl, d2, d3, d4, d5⟩
          · rcases fg_d (H := 9) hP3 (hP12 _) with ⟨e', g1, g2, x, q, g3, g4⟩ | ⟨v', p1', g1, g2, g3, g4, g5⟩
            · rw [d1] at g1
              cases g1
              rw [g4]
              simp only [Option.bind_some]
              rw [if_neg (show ¬ up (up (up w 0 11 (nI (te T N (sk T N p1)))) 0 11 (nI q)) 0 12 (nI e) 0 12 = -1 by rw [up_at]; exact nI_m1 (by omega)), decide_eq_false (fun q => q trivial)]
              simp only [Option.bind_some]
              rw [up_up]
              exact LnV.er g2 (d2.vu (by decide)) ⟨q, g3, rfl⟩ F
            · rw [d1] at g1; cases g1
          · rcases fg_d (H := 9) hP3 (hP12 _) with ⟨e', g1, g2, x, q, g3, g4⟩ | ⟨v', p1', g1, g2, g3, g4, g5⟩
            · rw [d1] at g1; cases g1
            · rw [d1] at g1
              cases g1
              rw [g5]
              simp only [Option.bind_some]
              rw [up_up, if_pos (hP12 _), decide_eq_true (nI_m1 (show v3 < 2 ^ 31 by omega)), show ∀ z : St, sa z 1 752 ((63 + (7 * nI v)) + nI v2) (nI v3) = some (up z 1 (63 + 7 * v + v2) (nI v3)) from fun z => sa_nI (k := 63 + 7 * v + v2) (ix_w v v2) (by omega) (by decide)]
              simp only [Option.bind_some]
              have fr : Fr54 w (up (up w 0 11 (nI p3)) 1 (63 + 7 * v + v2) (nI v3)) := Fr54.u11.tr (Fr54.u1 (by omega) (by omega) (by omega) (by omega))
              have hVs : RVd (vd s2 54) (w 1) n := hV.mv (fun j hj => (f2 _ (by omega)).trans (f1 _ (by omega)))
              refine Or.inr ⟨_, _, p3, n, rfl, rfl, ⟨d5.vu (by decide), ⟨fr.lt h2.1, d4, ?_⟩, ?_, ?_, ?_⟩, F, fr⟩
              · rw [up_pl (by decide), up_at]
              · rw [up_pl (by decide)]; exact hP12 _
              · rw [show vd (up s2 60 (v * 6 + v2) (nI v3)) 54 = du (vd s2 54) 6 (v * 6 + v2) (nI v3) from vd_du (v := 54) (j := 6), up_mu, up_pl (by decide)]
                exact hVs.uK hvn hv2 hvv
              · rw [up_mu, up_pl (by decide)]
                exact hW.uK hn hvn hv2 hvv (inR_nI (le9 d2 d3))

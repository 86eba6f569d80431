/-! THE LAW'S OWN WORLD: the class, the reference, the row of one long -/
abbrev wm (w : Wp) (aM : Nat → Nat) : Wp := (w.1, w.2.1, aM, w.2.2.2)
def LPx (w : Wp) (aM : Nat → Nat) (ao : Nat) (cJ : ClassId) (σ μ : St) (o : Int64) (H : Heap) : Prop := HW kdC w σ H ∧ HW kdM (wm w aM) μ H ∧ H[ao]? = some (vp_cell cJ (1, .inr (.inl (fun _ => o))))
/-- the places of all are apart and new -/
def Lq (Θ : Tz) (w : Wp) (aM : Nat → Nat) (ao : Nat) : Prop := Θ.2.2.2.2 = (kdC, w) ∧ zI kdC w ∧ zI kdM (wm w aM) ∧ (∀ i, i < kdC.length → Θ.2.2.2.1 (w.2.2.1 i)) ∧ (∀ j, j < kdM.length → Θ.2.2.2.1 (aM j)) ∧ Θ.2.2.2.1 ao ∧ (∀ i j, i < kdC.length → j < kdM.length → w.2.2.1 i ≠ aM j) ∧ (∀ i, i < kdC.length → w.2.2.1 i ≠ ao) ∧ (∀ j, j < kdM.length → aM j ≠ ao)
/-- the script -/
def Ls (Θ : Tz) (b L : Nat) (xs : Nat → Int32) : Prop := va_X b L xs Θ.2.1.1 Θ.2.1.1.heap ∧ b < Θ.2.1.1.heap.size ∧ ¬ Θ.2.2.2.1 b ∧ L ≤ 3072
section
variable {Θ : Tz} {cc : ByteArray} {nL kc ks : Nat} {own : String} {ret : Option FieldType} {rm : Room} {cJ : ClassId} {Q : State → Prop} {pc : Nat} {lv lv' : List (Nat × Value)} {st st0 : List Value} {w : Wp} {aM : Nat → Nat} {ao : Nat} {σ μ : St} {o : Int64} {b L : Nat} {xs : Nat → Int32} {P : Heap → Prop}
theorem l_sld (C : Gc Θ cc nL own ret rm cJ) (S : Ls Θ b L xs) {x : Int32} (k : Nat) (hx : x = nI k) (hk : k < L) (hd : decode cc pc = .ok (.iaload, 1)) (kk : G Θ nL kc ks Q P (pc + 1) lv (.int (xs k) :: st)) : G Θ nL kc ks Q P pc lv (.int x :: .ref b :: st) := fun H locs ls hH hS hl => by
  have hb31 : k < 2 ^ 31 := by have := S.2.2.2; omega
  subst hx
  refine va_sld C.1 C.2.1 S.1 S.2.1 S.2.2.1 hS (vp_in_nI hk (by have := S.2.2.2; omega)) hd ?_
  rw [nI_clamp hb31]
  exact kk H locs ls hH hS hl
theorem l_slen (C : Gc Θ cc nL own ret rm cJ) (S : Ls Θ b L xs) (hd : decode cc pc = .ok (.arraylength, 1)) (kk : G Θ nL kc ks Q P (pc + 1) lv (.int (nI L) :: st)) : G Θ nL kc ks Q P pc lv (.ref b :: st) := fun H locs ls hH hS hl =>
  va_slen C.1 C.2.1 S.1 S.2.1 S.2.2.1 hS hd (kk H locs ls hH hS hl)
/-- script[i + k] -/
theorem l_arg (C : Gc Θ cc nL own ret rm cJ) (S : Ls Θ b L xs) (q0 q4 k : Nat) {i : Nat} {kz : Int} (h0 : lv[q0]? = some (0, .ref b)) (h4 : lv[q4]? = some (4, .int (nI i))) (hik : i + k < L) (hkz : Int32.ofInt kz = nI k) (d0 : decode cc pc = .ok (.aload_n 0, 1)) (d1 : decode cc (pc + 1) = .ok (.iload 4, 2)) (d3 : decode cc (pc + 3) = .ok (.iconst kz, 1)) (d4 : decode cc (pc + 4) = .ok (.iadd, 1)) (d5 : decode cc (pc + 5) = .ok (.iaload, 1))
    (kk : G Θ nL kc ks Q P (pc + 6) lv (.int (xs (i + k)) :: st)) : G Θ nL kc ks Q P pc lv st := by
  refine g_aload_n C q0 d0 rfl h0 ?_
  refine g_iload C q4 d1 h4 ?_
  refine g_iconst C d3 hkz ?_
  refine g_iadd C d4 ?_
  refine l_sld C S (i + k) (nI_add i k) hik d5 ?_
  exact kk
theorem l_lald (C : Gc Θ cc nL own ret rm cJ) (hw : Θ.2.2.2.2.2 = w) (hd : decode cc pc = .ok (.laload, 1)) (kk : G Θ nL kc ks Q (LPx w aM ao cJ σ μ o) (pc + 1) lv (.long o :: st)) : G Θ nL kc ks Q (LPx w aM ao cJ σ μ o) pc lv (.int 0 :: .ref ao :: st) := fun H locs ls hH hS hl => by
  subst hw
  obtain ⟨hx, hb0, hml, hown, hts, hlk, hrr, hrm, hK, hJ, hA2, hE⟩ := id C
  refine va_lald (D := Θ.2.2.2.2.2.1) (cl := classes) (tys := [(cJ, .long)]) (ws := [(ao, .inl (cJ, 1, .inr (.inl (fun _ => o))))]) hx hb0 hJ (fun k q hq => ?_) 0 0 rfl rfl (by unfold vp_in; decide) hd (kk H locs ls hH hS hl)
  match k, hq with
  | 0, hq => cases hq; exact hH.2.2
  | k + 1, hq => simp at hq
theorem HW.kept2 {kd kd2 : List KD} {w w2 : Wp} {μ : St} {H H1 : Heap} {sz : Nat} (h : HW kd2 w2 μ H) (hap : ∀ i j, i < kd.length → j < kd2.length → w.2.2.1 i ≠ w2.2.2.1 j) (hsz : H.size ≤ sz) (hk : ∀ q : Nat, q < H.size → ¬ AA kd w sz q → H1[q]? = H[q]?) : HW kd2 w2 μ H1 := h.kept (fun j hj => by
  have hk2 := List.getElem?_eq_some_iff.mpr ⟨hj, rfl⟩
  have hl := (h j _ hk2).lt
  refine hk _ hl (fun z => ?_)
  rcases z with ⟨i, hi, e⟩ | z
  · exact hap i j hi hj e.symm
  · have : w2.2.2.1 j < H.size := hl
    omega)
theorem l_S {A1 : Nat → Prop} {H H1 : Heap} {locs Lc : List Loc} (hS : va_S Θ.2.2.2.1 Θ.2.1.1.heap H locs) (hAA : ∀ q, A1 q → Θ.2.2.2.1 q) (hz : H.size ≤ H1.size) (hk : ∀ q : Nat, q < H.size → ¬ A1 q → H1[q]? = H[q]?) (hL : ∀ q ∈ Lc, A1 q.base) : va_S Θ.2.2.2.1 Θ.2.1.1.heap H1 (locs ++ Lc) :=
  ⟨Nat.le_trans hS.1 hz, fun q h1 h2 => by rw [hk q (Nat.lt_of_lt_of_le h1 hS.1) (fun z => h2 (hAA q z))]; exact hS.2.1 q h1 h2, fun q hq => by
    rcases List.mem_append.mp hq with h | h
    · exact hS.2.2 q h
    · exact hAA _ (hL q h)⟩
theorem l_AA {kd : List KD} {w2 : Wp} (C : Gc Θ cc nL own ret rm cJ) (hA : ∀ i, i < kd.length → Θ.2.2.2.1 (w2.2.2.1 i)) {H : Heap} {locs : List Loc} (hS : va_S Θ.2.2.2.1 Θ.2.1.1.heap H locs) : ∀ q, AA kd w2 H.size q → Θ.2.2.2.1 q := fun q h => by
  rcases h with ⟨i, hi, rfl⟩ | h
  · exact hA i hi
  · exact C.2.2.2.2.2.2.2.2.2.2.1 q (Nat.le_trans hS.1 h)
theorem l_pre {kd : List KD} {w2 : Wp} {ν : St} (C : Gc Θ cc nL own ret rm cJ) (hK : KK w2 Θ.2.1.1) (hE : SX w2 Θ.2.2.2.1 Θ.2.1.1 Θ.2.1.1.heap) (hA : ∀ i, i < kd.length → Θ.2.2.2.1 (w2.2.2.1 i)) {H : Heap} {locs : List Loc} (hS : va_S Θ.2.2.2.1 Θ.2.1.1.heap H locs) (hH : HW kd w2 ν H) {av : List Value} :
    ∀ U : State, U.heap = H → Θ.2.1.1.WarmedH U.vm → zP kd w2 ν H.size av av.toArray U := fun U hU hW => by
  refine ⟨rfl, by rw [hU], by rw [hU]; exact hH, KK.warm hW hK, ?_⟩
  rw [hU]
  exact SX.warm hW (SX.narrow (hE.kept hS.2.1) (l_AA C hA hS))
/-- a call of the class -/
theorem l_callC (C : Gc Θ cc nL own ret rm cJ) (Lx : Lq Θ w aM ao) {y : MethodName} {c2 : ByteArray} {n2 idx : Nat} {r2 : Option FieldType} {rm2 : Room} (av : List Value) (ρ : Option Value × St) (n : Nat) {T : u_T} {N : Nat} (hc : classes[11]? = some (y.cls, T, N))
    (hM : zM Θ.1.2.1 kdC w y c2 n2 r2 rm2 (.ref (w.2.2.1 0) :: av) σ ρ)
    (hcode : Cond.code y c2 n2 r2 ∈ TB) (hlink : Cond.methodLink own idx y ∈ TB) (hinst : Cond.instanceMethod y ∈ TB) (hsel : Cond.selects y.cls y y ∈ TB) (hini : Cond.initialized y.cls ∈ TB) (hrm : rm2.cells = 0 ∧ rm2.slots = 0 ∧ rm2.frames + 1 ≤ rm.frames ∧ 8 + (n2 + 11) + rm2.locals ≤ rm.locals)
    (hy : y.cls ≠ "java/lang/invoke/MethodHandle" ∧ y.cls ≠ "java/lang/invoke/VarHandle" ∧ (parseMethodDescriptor y.desc).map (fun d => d.parameters.length) = some n) (hn : av.length = n) (hst : st0 = av.reverse ++ .ref (w.2.2.1 0) :: st) (hcat : (st.map fun v => v.category).sum ≤ 8) (hk : kc ≤ rm.cells ∧ ks ≤ rm.slots)
    (hd : decode cc pc = .ok (.invokevirtual idx, 3)) (kk : G Θ nL kc ks Q (LPx w aM ao cJ ρ.2 μ o) (pc + 3) lv (ρ.1.toList ++ st)) : G Θ nL kc ks Q (LPx w aM ao cJ σ μ o) pc lv st0 := by
  intro H locs ls hH hS hl
  obtain ⟨hx, hb0, hml, hown, hts, hlk, hrr, hrmm, hK, hJ, hA2, hE⟩ := id C
  obtain ⟨hw0, hiC, hiM, hAC, hAM, hAo, hap, hap2, hap3⟩ := Lx
  have hw : Θ.2.2.2.2.2 = w := by rw [hw0]
  rw [hw] at hK hJ hE
  have hts2 : ∀ w ∈ (Cond.code y c2 n2 r2 :: TB), w.before Θ.2.1.2.2.1 Θ.2.1.1 = true := fun w hw => (List.mem_cons.mp hw).elim (fun e => by rw [e]; exact hts _ hcode) (hts w)
  subst hst
  have cw := callB_of (R := Θ.1.2.2.2) (own := own) (index := idx) n hts2 (tb_GoodIn hcode) rfl hrm.1 hrm.2.1 (hts _ hini) (hts _ hlink) hy (by rw [hrmm]; exact ⟨hrm.2.2.1, hrm.2.2.2⟩)
  obtain ⟨fl, h0⟩ : ∃ fl, kdC[0]? = some (.inr (.inl (11, fl))) := ⟨_, rfl⟩
  have hP : va_P w.1 classes [(w.2.2.1 0, .inr (11, fvals w.2.2.1 (σ 0) 0 fl))] H := fun k q hq => by
    have h1 := hH.1 0 _ h0
    match k, hq with
    | 0, hq => cases hq; exact h1
    | k + 1, hq => simp at hq
  have hr := va_runV (l := Θ.1.2.1) (p := Θ.1.1) (e := Θ.1.2.2.1) (below := Θ.2.1.2.2.2) (meth := Θ.2.2.1.1) (H := H) (locs := locs) (cells := kc) (slots := ks) (g := F0 Θ.2.1.2.1 pc ls (av.reverse ++ .ref (w.2.2.1 0) :: st)) (C := y.cls) (rest := st) (As := av) ⟨hx, hb0, hml, hown, hts⟩ (hM H.size) ⟨cw, hts _ hinst, hts _ hsel⟩ ⟨zP_blind, va_recv (q0 := 0) hK.1 hP hc rfl, l_pre C hK hE hAC hS hH.1⟩ rfl hn hl.1 rfl (lv_room hcat) hd (by rw [hrmm]; exact hk)
  intro T hT X
  obtain ⟨v, st₀, t, T', Lc, e0, X', hL, e1, e2, ⟨⟨hv, hb⟩, hz, hkk⟩, hst⟩ := hr T hT X
  cases hv
  rw [e0] at hz hkk
  have hlt : ao < H.size := (Array.getElem?_eq_some_iff.mp hH.2.2).1
  have hno : ¬ AA kdC w H.size ao := fun h => by
    rcases h with ⟨i, hi, e⟩ | h
    · exact hap2 i hi e.symm
    · omega
  obtain ⟨t2, a1, b1⟩ := kk T'.heap (locs ++ Lc) ls (by rw [e1]; exact ⟨hb, hH.2.1.kept2 (kd := kdC) (w := w) (sz := H.size) hap (Nat.le_refl _) hkk, by rw [hkk ao hlt hno]; exact hH.2.2⟩) (by rw [e1]; exact l_S hS (l_AA C hAC hS) hz hkk hL) hl T' rfl X'
  exact ⟨t2, hst t2 a1, b1⟩
/-- a call of the reference -/
theorem l_callM (C : Gc Θ cc nL own ret rm cJ) (Lx : Lq Θ w aM ao) {y : MethodName} {c2 : ByteArray} {n2 idx : Nat} {r2 : Option FieldType} {rm2 : Room} (av : List Value) (ρ : Option Value × St) (n : Nat) {T : u_T} {N : Nat} (hc : classes[12]? = some (y.cls, T, N))
    (hM : zM Θ.1.2.1 kdM (wm w aM) y c2 n2 r2 rm2 (.ref (aM 0) :: av) μ ρ)
    (hcode : Cond.code y c2 n2 r2 ∈ TB) (hlink : Cond.methodLink own idx y ∈ TB) (hinst : Cond.instanceMethod y ∈ TB) (hsel : Cond.selects y.cls y y ∈ TB) (hini : Cond.initialized y.cls ∈ TB) (hrm : rm2.cells = 0 ∧ rm2.slots = 0 ∧ rm2.frames + 1 ≤ rm.frames ∧ 8 + (n2 + 11) + rm2.locals ≤ rm.locals)
    (hy : y.cls ≠ "java/lang/invoke/MethodHandle" ∧ y.cls ≠ "java/lang/invoke/VarHandle" ∧ (parseMethodDescriptor y.desc).map (fun d => d.parameters.length) = some n) (hn : av.length = n) (hst : st0 = av.reverse ++ .ref (aM 0) :: st) (hcat : (st.map fun v => v.category).sum ≤ 8) (hk : kc ≤ rm.cells ∧ ks ≤ rm.slots)
    (hd : decode cc pc = .ok (.invokevirtual idx, 3)) (kk : G Θ nL kc ks Q (LPx w aM ao cJ σ ρ.2 o) (pc + 3) lv (ρ.1.toList ++ st)) : G Θ nL kc ks Q (LPx w aM ao cJ σ μ o) pc lv st0 := by
  intro H locs ls hH hS hl
  obtain ⟨hx, hb0, hml, hown, hts, hlk, hrr, hrmm, hK, hJ, hA2, hE⟩ := id C
  obtain ⟨hw0, hiC, hiM, hAC, hAM, hAo, hap, hap2, hap3⟩ := Lx
  have hw : Θ.2.2.2.2.2 = w := by rw [hw0]
  rw [hw] at hK hJ hE
  have hts2 : ∀ w ∈ (Cond.code y c2 n2 r2 :: TB), w.before Θ.2.1.2.2.1 Θ.2.1.1 = true := fun w hw => (List.mem_cons.mp hw).elim (fun e => by rw [e]; exact hts _ hcode) (hts w)
  subst hst
  have cw := callB_of (R := Θ.1.2.2.2) (own := own) (index := idx) n hts2 (tb_GoodIn hcode) rfl hrm.1 hrm.2.1 (hts _ hini) (hts _ hlink) hy (by rw [hrmm]; exact ⟨hrm.2.2.1, hrm.2.2.2⟩)
  obtain ⟨fl, h0⟩ : ∃ fl, kdM[0]? = some (.inr (.inl (12, fl))) := ⟨_, rfl⟩
  have hP : va_P w.1 classes [(aM 0, .inr (12, fvals aM (μ 0) 0 fl))] H := fun k q hq => by
    have h1 := hH.2.1 0 _ h0
    match k, hq with
    | 0, hq => cases hq; exact h1
    | k + 1, hq => simp at hq
  have hr := va_runV (l := Θ.1.2.1) (p := Θ.1.1) (e := Θ.1.2.2.1) (below := Θ.2.1.2.2.2) (meth := Θ.2.2.1.1) (H := H) (locs := locs) (cells := kc) (slots := ks) (g := F0 Θ.2.1.2.1 pc ls (av.reverse ++ .ref (aM 0) :: st)) (C := y.cls) (rest := st) (As := av) ⟨hx, hb0, hml, hown, hts⟩ (hM H.size) ⟨cw, hts _ hinst, hts _ hsel⟩ ⟨zP_blind, va_recv (q0 := 0) hK.1 hP hc rfl, l_pre (w2 := wm w aM) C hK hE hAM hS hH.2.1⟩ rfl hn hl.1 rfl (lv_room hcat) hd (by rw [hrmm]; exact hk)
  intro T hT X
  obtain ⟨v, st₀, t, T', Lc, e0, X', hL, e1, e2, ⟨⟨hv, hb⟩, hz, hkk⟩, hst⟩ := hr T hT X
  cases hv
  rw [e0] at hz hkk
  have hlt : ao < H.size := (Array.getElem?_eq_some_iff.mp hH.2.2).1
  have hno : ¬ AA kdM (wm w aM) H.size ao := fun h => by
    rcases h with ⟨i, hi, e⟩ | h
    · exact hap3 i hi e.symm
    · omega
  obtain ⟨t2, a1, b1⟩ := kk T'.heap (locs ++ Lc) ls (by rw [e1]; exact ⟨hH.1.kept2 (kd := kdM) (w := wm w aM) (sz := H.size) (fun i j hi hj e => hap j i hj hi e.symm) (Nat.le_refl _) hkk, hb, by rw [hkk ao hlt hno]; exact hH.2.2⟩) (by rw [e1]; exact l_S hS (l_AA (w2 := wm w aM) C hAM hS) hz hkk hL) hl T' rfl X'
  exact ⟨t2, hst t2 a1, b1⟩
/-- a call of a wrapper -/
theorem l_callW (C : Gc Θ cc nL own ret rm cJ) (Lx : Lq Θ w aM ao) {y : MethodName} {c2 : ByteArray} {n2 idx : Nat} {rm2 : Room} {hh : List (Nat × Nat × Nat × Nat)} {k : Int32} {σ' : St} {o' : Int64} (av : List Value) (n : Nat)
    (hM : wM Θ.1.2.1 w ao cJ y c2 n2 hh rm2 av σ o k σ' o')
    (hcode : Cond.codeWith y c2 n2 (some .int) hh ∈ TB) (hlink : Cond.methodLink own idx y ∈ TB) (hstat : Cond.static y ∈ TB) (hini : Cond.initialized y.cls ∈ TB) (hrm : rm2.cells = 4 ∧ rm2.slots = 24 ∧ rm2.frames + 1 ≤ rm.frames ∧ 8 + (n2 + 11) + rm2.locals ≤ rm.locals)
    (hy : y.cls ≠ "java/lang/invoke/MethodHandle" ∧ y.cls ≠ "java/lang/invoke/VarHandle" ∧ (parseMethodDescriptor y.desc).map (fun d => d.parameters.length) = some n) (hn : av.length = n) (hst : st0 = av.reverse ++ st) (hcat : (st.map fun v => v.category).sum ≤ 8) (hk : kc + 4 ≤ rm.cells ∧ ks + 24 ≤ rm.slots)
    (hd : decode cc pc = .ok (.invokestatic idx, 3)) (kk : G Θ nL (kc + 4) (ks + 24) Q (LPx w aM ao cJ σ' μ o') (pc + 3) lv (.int k :: st)) : G Θ nL kc ks Q (LPx w aM ao cJ σ μ o) pc lv st0 := by
  intro H locs ls hH hS hl
  obtain ⟨hx, hb0, hml, hown, hts, hlk, hrr, hrmm, hK, hJ, hA2, hE⟩ := id C
  obtain ⟨hw0, hiC, hiM, hAC, hAM, hAo, hap, hap2, hap3⟩ := Lx
  have hw : Θ.2.2.2.2.2 = w := by rw [hw0]
  rw [hw] at hK hJ hE
  subst hst
  have hAW : ∀ q, WA w ao H.size q → Θ.2.2.2.1 q := fun q h => by
    rcases h with h | rfl
    · exact l_AA C hAC hS q h
    · exact hAo
  have cw : vx_CSW Θ.1.2.2.2 Θ.2.1.1 Θ.2.1.2.2.1 own idx y c2 n2 (some .int) hh (Cond.codeWith y c2 n2 (some .int) hh :: TB) rm2 4 24 n := by
    refine ⟨⟨hrm.1, hrm.2.1, by rw [hrmm]; exact hrm.2.2.1, by rw [hrmm]; exact hrm.2.2.2, pay_in hts (tb_GI hcode), List.mem_cons_self⟩, hts _ hcode, hts _ hini, ⟨hy.1, hy.2.1⟩, fun sig h => ?_, hts _ hlink, hts _ hstat⟩
    have h2 := hy.2.2
    rw [h] at h2
    exact (Option.some.inj h2).symm
  have hr := vx_runSW (l := Θ.1.2.1) (p := Θ.1.1) (e := Θ.1.2.2.1) (below := Θ.2.1.2.2.2) (meth := Θ.2.2.1.1) (H := H) (locs := locs) (cells := kc) (slots := ks) (g := F0 Θ.2.1.2.1 pc ls (av.reverse ++ st)) (rest := st) (As := av) (Ts := TB) ⟨hx, hb0, hml, hown, hts⟩ (hM H.size) cw ⟨wP_blind, fun U hU hW => ⟨rfl, by rw [hU], by rw [hU]; exact ⟨hH.1, hH.2.2⟩, KK.warm hW hK, va_K.moved hW.alike hJ, by rw [hU]; exact SX.warm hW (SX.narrow (hE.kept hS.2.1) hAW)⟩⟩ rfl hn hl.1 rfl (lv_room hcat) hd (by rw [hrmm]; exact hk)
  intro T hT X
  obtain ⟨v, st₀, t, T', Lc, e0, X', hL, e1, e2, ⟨⟨hv, hb⟩, hz, hkk⟩, hst⟩ := hr T hT X
  cases hv
  rw [e0] at hz hkk
  have hM2 : HW kdM (wm w aM) μ t.heap := hH.2.1.kept (fun j hj => by
    have hk2 := List.getElem?_eq_some_iff.mpr ⟨hj, rfl⟩
    have hlj : aM j < H.size := (hH.2.1 j _ hk2).lt
    refine hkk _ hlj (fun z => ?_)
    rcases z with (⟨i, hi, e⟩ | z) | z
    · exact hap i j hi hj e.symm
    · exact absurd hlj (Nat.not_lt.mpr z)
    · exact hap3 j hj z)
  obtain ⟨t2, a1, b1⟩ := kk T'.heap (locs ++ Lc) ls (by rw [e1]; exact ⟨hb.1, hM2, hb.2⟩) (by rw [e1]; exact l_S hS hAW hz hkk hL) hl T' rfl X'
  exact ⟨t2, hst t2 a1, b1⟩
end
theorem lg_cmp_self (x : Int64) : lg_cmp x x = 0 := by
  unfold lg_cmp
  rw [if_neg (by simp), if_pos rfl]
/-- how a throwing call of the class and the reference's agree -/
def Sx {R : Type} (hs : List Nat) (r1 : Sum Nat R × St) (r2 : R × St) : Prop := match r1.1 with
  | .inl e => e ∈ hs ∧ r2.2 0 0 = nI (hs.idxOf e + 1)
  | .inr v => r2.2 0 0 = 0 ∧ v = r2.1
theorem Sx_in {R : Type} {hs : List Nat} {r1 : Sum Nat R × St} {r2 : R × St} (h : Sx hs r1 r2) : ∀ e, r1.1 = .inl e → e ∈ hs := fun e he => by
  unfold Sx at h
  rw [he] at h
  exact h.1
theorem Sx_k {R : Type} {hs : List Nat} {r1 : Sum Nat R × St} {r2 : R × St} (h : Sx hs r1 r2) : r2.2 0 0 = wk hs r1 := by
  unfold Sx at h
  unfold wk
  cases he : r1.1 with
  | inl e => rw [he] at h; exact h.2
  | inr v => rw [he] at h; exact h.1
theorem Sx_o {R : Type} {hs : List Nat} {r1 : Sum Nat R × St} {r2 : R × St} {f : R → Int32} {o : Int64} (hl : hs.length < 1000) (h : Sx hs r1 r2) (h0 : wk hs r1 = 0) : wo f r1 o = (f r2.1).toInt64 := by
  unfold Sx at h
  unfold wk at h0
  unfold wo
  cases he : r1.1 with
  | inl e =>
    rw [he] at h0
    exfalso
    have h1 := List.idxOf_le_length (a := e) (l := hs)
    exact nI_ne0 (Nat.succ_pos _) (by omega) h0
  | inr v => rw [he] at h; rw [h.2]
section
variable {Θ : Tz} {cc : ByteArray} {nL kc ks : Nat} {own : String} {ret : Option FieldType} {rm : Room} {cJ : ClassId} {Q : State → Prop} {pc : Nat} {lv lv' : List (Nat × Value)} {st st0 : List Value} {w : Wp} {aM : Nat → Nat} {ao : Nat} {σ μ : St} {o : Int64}
theorem l_callCi (C : Gc Θ cc nL own ret rm cJ) (Lx : Lq Θ w aM ao) {y : MethodName} {c2 : ByteArray} {n2 idx : Nat} {r2 : Option FieldType} {rm2 : Room} (av : List Value) (v : Int32) (σ' : St) (n : Nat) {T : u_T} {N : Nat} (hc : classes[11]? = some (y.cls, T, N))
    (hM : zM Θ.1.2.1 kdC w y c2 n2 r2 rm2 (.ref (w.2.2.1 0) :: av) σ (some (.int v), σ'))
    (hcode : Cond.code y c2 n2 r2 ∈ TB) (hlink : Cond.methodLink own idx y ∈ TB) (hinst : Cond.instanceMethod y ∈ TB) (hsel : Cond.selects y.cls y y ∈ TB) (hini : Cond.initialized y.cls ∈ TB) (hrm : rm2.cells = 0 ∧ rm2.slots = 0 ∧ rm2.frames + 1 ≤ rm.frames ∧ 8 + (n2 + 11) + rm2.locals ≤ rm.locals)
    (hy : y.cls ≠ "java/lang/invoke/MethodHandle" ∧ y.cls ≠ "java/lang/invoke/VarHandle" ∧ (parseMethodDescriptor y.desc).map (fun d => d.parameters.length) = some n) (hn : av.length = n) (hst : st0 = av.reverse ++ .ref (w.2.2.1 0) :: st) (hcat : (st.map fun v => v.category).sum ≤ 8) (hk : kc ≤ rm.cells ∧ ks ≤ rm.slots)
    (hd : decode cc pc = .ok (.invokevirtual idx, 3)) (kk : G Θ nL kc ks Q (LPx w aM ao cJ σ' μ o) (pc + 3) lv (.int v :: st)) : G Θ nL kc ks Q (LPx w aM ao cJ σ μ o) pc lv st0 := l_callC C Lx av (some (.int v), σ') n hc hM hcode hlink hinst hsel hini hrm hy hn hst hcat hk hd kk
theorem l_callCv (C : Gc Θ cc nL own ret rm cJ) (Lx : Lq Θ w aM ao) {y : MethodName} {c2 : ByteArray} {n2 idx : Nat} {r2 : Option FieldType} {rm2 : Room} (av : List Value) (σ' : St) (n : Nat) {T : u_T} {N : Nat} (hc : classes[11]? = some (y.cls, T, N))
    (hM : zM Θ.1.2.1 kdC w y c2 n2 r2 rm2 (.ref (w.2.2.1 0) :: av) σ (none, σ'))
    (hcode : Cond.code y c2 n2 r2 ∈ TB) (hlink : Cond.methodLink own idx y ∈ TB) (hinst : Cond.instanceMethod y ∈ TB) (hsel : Cond.selects y.cls y y ∈ TB) (hini : Cond.initialized y.cls ∈ TB) (hrm : rm2.cells = 0 ∧ rm2.slots = 0 ∧ rm2.frames + 1 ≤ rm.frames ∧ 8 + (n2 + 11) + rm2.locals ≤ rm.locals)
    (hy : y.cls ≠ "java/lang/invoke/MethodHandle" ∧ y.cls ≠ "java/lang/invoke/VarHandle" ∧ (parseMethodDescriptor y.desc).map (fun d => d.parameters.length) = some n) (hn : av.length = n) (hst : st0 = av.reverse ++ .ref (w.2.2.1 0) :: st) (hcat : (st.map fun v => v.category).sum ≤ 8) (hk : kc ≤ rm.cells ∧ ks ≤ rm.slots)
    (hd : decode cc pc = .ok (.invokevirtual idx, 3)) (kk : G Θ nL kc ks Q (LPx w aM ao cJ σ' μ o) (pc + 3) lv st) : G Θ nL kc ks Q (LPx w aM ao cJ σ μ o) pc lv st0 := l_callC C Lx av (none, σ') n hc hM hcode hlink hinst hsel hini hrm hy hn hst hcat hk hd kk
theorem l_callMi (C : Gc Θ cc nL own ret rm cJ) (Lx : Lq Θ w aM ao) {y : MethodName} {c2 : ByteArray} {n2 idx : Nat} {r2 : Option FieldType} {rm2 : Room} (av : List Value) (v : Int32) (μ' : St) (n : Nat) {T : u_T} {N : Nat} (hc : classes[12]? = some (y.cls, T, N))
    (hM : zM Θ.1.2.1 kdM (wm w aM) y c2 n2 r2 rm2 (.ref (aM 0) :: av) μ (some (.int v), μ'))
    (hcode : Cond.code y c2 n2 r2 ∈ TB) (hlink : Cond.methodLink own idx y ∈ TB) (hinst : Cond.instanceMethod y ∈ TB) (hsel : Cond.selects y.cls y y ∈ TB) (hini : Cond.initialized y.cls ∈ TB) (hrm : rm2.cells = 0 ∧ rm2.slots = 0 ∧ rm2.frames + 1 ≤ rm.frames ∧ 8 + (n2 + 11) + rm2.locals ≤ rm.locals)
    (hy : y.cls ≠ "java/lang/invoke/MethodHandle" ∧ y.cls ≠ "java/lang/invoke/VarHandle" ∧ (parseMethodDescriptor y.desc).map (fun d => d.parameters.length) = some n) (hn : av.length = n) (hst : st0 = av.reverse ++ .ref (aM 0) :: st) (hcat : (st.map fun v => v.category).sum ≤ 8) (hk : kc ≤ rm.cells ∧ ks ≤ rm.slots)
    (hd : decode cc pc = .ok (.invokevirtual idx, 3)) (kk : G Θ nL kc ks Q (LPx w aM ao cJ σ μ' o) (pc + 3) lv (.int v :: st)) : G Θ nL kc ks Q (LPx w aM ao cJ σ μ o) pc lv st0 := l_callM C Lx av (some (.int v), μ') n hc hM hcode hlink hinst hsel hini hrm hy hn hst hcat hk hd kk
theorem l_callMv (C : Gc Θ cc nL own ret rm cJ) (Lx : Lq Θ w aM ao) {y : MethodName} {c2 : ByteArray} {n2 idx : Nat} {r2 : Option FieldType} {rm2 : Room} (av : List Value) (μ' : St) (n : Nat) {T : u_T} {N : Nat} (hc : classes[12]? = some (y.cls, T, N))
    (hM : zM Θ.1.2.1 kdM (wm w aM) y c2 n2 r2 rm2 (.ref (aM 0) :: av) μ (none, μ'))
    (hcode : Cond.code y c2 n2 r2 ∈ TB) (hlink : Cond.methodLink own idx y ∈ TB) (hinst : Cond.instanceMethod y ∈ TB) (hsel : Cond.selects y.cls y y ∈ TB) (hini : Cond.initialized y.cls ∈ TB) (hrm : rm2.cells = 0 ∧ rm2.slots = 0 ∧ rm2.frames + 1 ≤ rm.frames ∧ 8 + (n2 + 11) + rm2.locals ≤ rm.locals)
    (hy : y.cls ≠ "java/lang/invoke/MethodHandle" ∧ y.cls ≠ "java/lang/invoke/VarHandle" ∧ (parseMethodDescriptor y.desc).map (fun d => d.parameters.length) = some n) (hn : av.length = n) (hst : st0 = av.reverse ++ .ref (aM 0) :: st) (hcat : (st.map fun v => v.category).sum ≤ 8) (hk : kc ≤ rm.cells ∧ ks ≤ rm.slots)
    (hd : decode cc pc = .ok (.invokevirtual idx, 3)) (kk : G Θ nL kc ks Q (LPx w aM ao cJ σ μ' o) (pc + 3) lv st) : G Θ nL kc ks Q (LPx w aM ao cJ σ μ o) pc lv st0 := l_callM C Lx av (none, μ') n hc hM hcode hlink hinst hsel hini hrm hy hn hst hcat hk hd kk
end
abbrev llv (w : Wp) (aM : Nat → Nat) (ao b i : Nat) : List (Nat × Value) := [(0, .ref b), (1, .ref (w.2.2.1 0)), (2, .ref (aM 0)), (3, .ref ao), (4, .int (nI i))]

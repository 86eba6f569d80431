/-! THROWS -/
def exn : Nat → String
  | 0 => "java/lang/IllegalArgumentException"
  | 1 => "java/lang/IllegalStateException"
  | 2 => "java/lang/IndexOutOfBoundsException"
  | 3 => "java/lang/UnsupportedOperationException"
  | _ => "java/util/NoSuchElementException"
/-- how a call ends: it returns, or throws the exception of a number -/
abbrev Om : Type := (Option Value × St) ⊕ (Nat × St)
def QX (kd : List KD) (w : Wp) (A : Nat → Prop) (ω : Om) : Array Value → State → Outcome → State → Prop := fun a st o t => match ω with
  | .inl ρ => Qc kd w A ρ a st o t
  | .inr _ => False
def XX (kd : List KD) (w : Wp) (A : Nat → Prop) (ω : Om) : String → State → State → Prop := fun E st t => match ω with
  | .inl _ => False
  | .inr x => E = exn x.1 ∧ HW kd w x.2 t.heap ∧ va_F A st t
abbrev zQX (Θ : Tz) (ω : Om) (mc ms : Nat) : State → Prop := vx_MQ Θ.2.1.2.2.2 (QX Θ.2.2.2.2.1 Θ.2.2.2.2.2 Θ.2.2.2.1 ω) (XX Θ.2.2.2.2.1 Θ.2.2.2.2.2 Θ.2.2.2.1 ω) Θ.2.1.2.2.1 Θ.2.1.1 mc ms Θ.2.2.2.1
def zX (l : Launch) (kd : List KD) (w : Wp) (y : MethodName) (cc : ByteArray) (nL : Nat) (ret : Option FieldType) (rm : Room) (av : List Value) (σ : St) (ω : Om) (mc ms : Nat) : Prop :=
  ∀ sz, vx_Met l y (.code y cc nL ret :: TB) rm (zP kd w σ sz av) (QX kd w (AA kd w sz) ω) (XX kd w (AA kd w sz) ω) mc ms (AA kd w sz)
theorem zX_of {l : Launch} {kd : List KD} {w : Wp} {y : MethodName} {cc : ByteArray} {nL : Nat} {ret : Option FieldType} {rm : Room} {av : List Value} {σ : St} {ω : Om} {mc ms : Nat} (hy : plainName y.cls = true) (hi : zI kd w) (hn : (lg_sl av).length ≤ nL)
    (h : ∀ Θ : Tz, Θ.1.2.1 = l → Θ.2.2.2.2 = (kd, w) → Zc Θ cc nL y.cls ret rm → (∀ x ∈ Θ.2.2.1.2.exceptionTable.toList, False) → Z Θ nL 0 0 (zQX Θ ω mc ms) σ 0 (lv_args 0 av) []) : zX l kd w y cc nL ret rm av σ ω mc ms := by
  intro sz
  refine vx_ofW (cc := cc) (maxL := nL) (ret := ret) hy rfl ?_
  intro p e s m args below meth c s₁ B hml het hv
  obtain ⟨rfl, hsz, hP, hK, hE⟩ := hv
  subst hsz
  have hts := atoms_spec (ws := .code y cc nL ret :: TB) B.pre
  have hl := lv_entry av (n := nL) hn
  rw [lg_entry_eq]
  exact h ((p, l, e, (headSpec (.code y cc nL ret :: TB) rm).room), (s, m, av.toArray, below), (meth, c), AA kd w s.heap.size, (kd, w)) rfl rfl
    ⟨B.exec, B.bytes, hml, findClass_of_methodNamed B.named, fun w hw => hts w (List.mem_cons_of_mem _ hw), B.notSynchronized, B.returns, rfl, hK, hi, fun i hi => Or.inl ⟨i, hi, rfl⟩, fun q hq => Or.inr hq, hE⟩ het s.heap [] _ hP va_S.rf hl
def om {R : Type} (f : R → Option Value) (r : Sum Nat R × St) : Om := match r.1 with
  | .inl e => .inr (e, r.2)
  | .inr v => .inl (f v, r.2)
def omN (r : Option Nat) (σ : St) : Om := match r with
  | some e => .inr (e, σ)
  | none => .inl (none, σ)
def thn {R : Type} (v : Option Nat) (σ : St) (k : Option (Sum Nat R × St)) : Option (Sum Nat R × St) := match v with
  | some e => some (.inl e, σ)
  | none => k
def thN (v : Option Nat) (k : Option Nat) : Option Nat := match v with
  | some e => some e
  | none => k
section
variable {Θ : Tz} {cc : ByteArray} {nL kc ks mc ms : Nat} {own : String} {ret : Option FieldType} {rm : Room} {Q : State → Prop} {σ : St} {pc : Nat} {lv lv' : List (Nat × Value)} {st st0 : List Value}
theorem Z.wid {k n : Nat} (h1 : kc ≤ k) (h2 : ks ≤ n) (kk : Z Θ nL k n Q σ pc lv st) : Z Θ nL kc ks Q σ pc lv st := fun H locs ls hH hS hl => W.widen h1 h2 (kk H locs ls hH hS hl)
theorem zx_iret {v : Int32} (C : Zc Θ cc nL own (some .int) rm) (hk : kc ≤ mc ∧ ks ≤ ms) (hd : decode cc pc = .ok (.ireturn, 1)) : Z Θ nL kc ks (zQX Θ (.inl (some (.int v), σ)) mc ms) σ pc lv [.int v] := fun H locs ls hH hS hl =>
  W.widen hk.1 hk.2 (vx_ret (W.iret C.1 C.2.1 C.2.2.2.2.2.2.1 (fun t ht hW => ⟨⟨rfl, by rw [ht]; exact hH⟩, hS.F ht⟩) hS.2.2 hd C.2.2.2.2.2.1))
theorem zx_zret {v : Int32} (C : Zc Θ cc nL own (some .boolean) rm) (hk : kc ≤ mc ∧ ks ≤ ms) (hn : narrow .boolean (.int v) = .int v) (hd : decode cc pc = .ok (.ireturn, 1)) : Z Θ nL kc ks (zQX Θ (.inl (some (.int v), σ)) mc ms) σ pc lv [.int v] := fun H locs ls hH hS hl =>
  W.widen hk.1 hk.2 (vx_ret (W.zret C.1 C.2.1 C.2.2.2.2.2.2.1 hn (fun t ht hW => ⟨⟨rfl, by rw [ht]; exact hH⟩, hS.F ht⟩) hS.2.2 hd C.2.2.2.2.2.1))
theorem zx_vret (C : Zc Θ cc nL own none rm) (hk : kc ≤ mc ∧ ks ≤ ms) (hd : decode cc pc = .ok (.return_, 1)) : Z Θ nL kc ks (zQX Θ (.inl (none, σ)) mc ms) σ pc lv [] := fun H locs ls hH hS hl =>
  W.widen hk.1 hk.2 (vx_ret (W.vret C.1 C.2.1 C.2.2.2.2.2.2.1 (fun t ht hW => ⟨⟨rfl, by rw [ht]; exact hH⟩, hS.F ht⟩) hS.2.2 hd C.2.2.2.2.2.1))
theorem zx_thrown (C : Zc Θ cc nL own ret rm) {H : Heap} {locs : List Loc} {x : Nat} (hH : HW Θ.2.2.2.2.1 Θ.2.2.2.2.2 σ H) (hS : va_S Θ.2.2.2.1 Θ.2.1.1.heap H locs) : ∀ t : State, Θ.2.1.1.vm.Alike t.vm → H.size ≤ t.heap.size → (∀ q : Nat, q < H.size → t.heap[q]? = H[q]?) → XX Θ.2.2.2.2.1 Θ.2.2.2.2.2 Θ.2.2.2.1 (.inr (x, σ)) (exn x) Θ.2.1.1 t := fun t _ hz hq => by
  refine ⟨rfl, fun i k hk => (hH i k hk).kept (hq _ ((hH i k hk).lt)), Nat.le_trans hS.1 hz, fun q h1 h2 => ?_⟩
  rw [hq q (Nat.lt_of_lt_of_le h1 hS.1)]
  exact hS.2.1 q h1 h2
/-- throw new E("text") -/
theorem zx_throw (C : Zc Θ cc nL own ret rm) (hl0 : Θ.1.2.1.stackTraces = false) (het : ∀ x ∈ Θ.2.2.1.2.exceptionTable.toList, False) (x : Nat) {ik is ic k : Nat} {tx : String} (hf : Bundle.fit (exn x) = true) (hk : Cond.classLink own ik (exn x) ∈ TB) (hini : Cond.initialized (exn x) ∈ TB) (hstr : (own, is, tx, k) ∈ strR)
    (hg : ∀ w ∈ (vx_atS own ic (exn x) ["java/lang/RuntimeException", "java/lang/Exception"]).filter goodWord, w ∈ TB) (hn : ∀ w ∈ (vx_atS own ic (exn x) ["java/lang/RuntimeException", "java/lang/Exception"]).filter (fun w => !goodWord w), w ∈ nestW)
    (hot : ∀ w ∈ Cond.classLink own ik (exn x) :: Cond.initialized (exn x) :: vx_atS own ic (exn x) ["java/lang/RuntimeException", "java/lang/Exception"], vx_ot w = true)
    (d0 : decode cc pc = .ok (.new ik, 3)) (d3 : decode cc (pc + 3) = .ok (.dup, 1)) (d4 : decode cc (pc + 4) = .ok (.ldc is, 2)) (d6 : decode cc (pc + 6) = .ok (.invokespecial ic, 3)) (d9 : decode cc (pc + 9) = .ok (.athrow, 1))
    (hrm : 5 < rm.frames ∧ 8 + 82 ≤ rm.locals ∧ kc + 1 ≤ rm.cells ∧ ks + 6 ≤ rm.slots) (hcat : (st.map fun v => v.category).sum ≤ 8) (hmc : kc + 1 ≤ mc ∧ ks + 6 ≤ ms) : Z Θ nL kc ks (zQX Θ (.inr (x, σ)) mc ms) σ pc lv st := fun H locs ls hH hS hl => by
  obtain ⟨hx, hb0, hml, hown, hts, hlk, hrr, hrmm, hK, hinj, hA, hA2, hE⟩ := id C
  refine vx_throwS (names := ["java/lang/RuntimeException", "java/lang/Exception"]) hx hb0 hl0 hown hf (by decide +kernel) (hts _ hk) (hts _ hini) (hE.2.1 _ hstr) (vx_hat (fun w hw => hts w (hg w hw)) hn (fun w hw => va_Nw.use ?_ (hK.2.1 w hw))) hot hE.2.2.2.2.1 hE.2.2.2.2.2 hS (by rw [hl.1, hml]) d0 d3 d4 d6 d9 (fun z hz => (het z hz).elim) (by rw [hrmm]; exact hrm.1) (by rw [hrmm]; show _ + 82 ≤ _; omega) (by rw [hrmm]; exact hrm.2.2.1) (by rw [hrmm]; exact hrm.2.2.2) hlk (zx_thrown C hH hS) hS.2.2 hmc.1 hmc.2
  have h9 := nest_all w hw
  cases w <;> first | rfl | cases h9
theorem zx_throwW (C : Zc Θ cc nL own ret rm) (hl0 : Θ.1.2.1.stackTraces = false) (het : ∀ x ∈ Θ.2.2.1.2.exceptionTable.toList, False) (x : Nat) {ik is ic k : Nat} {tx : String} (hf : Bundle.fit (exn x) = true) (hk : Cond.classLink own ik (exn x) ∈ TB) (hini : Cond.initialized (exn x) ∈ TB) (hstr : (own, is, tx, k) ∈ strR)
    (hg : ∀ w ∈ (vx_atS own ic (exn x) ["java/lang/RuntimeException", "java/lang/Exception"]).filter goodWord, w ∈ TB) (hn : ∀ w ∈ (vx_atS own ic (exn x) ["java/lang/RuntimeException", "java/lang/Exception"]).filter (fun w => !goodWord w), w ∈ nestW)
    (hot : ∀ w ∈ Cond.classLink own ik (exn x) :: Cond.initialized (exn x) :: vx_atS own ic (exn x) ["java/lang/RuntimeException", "java/lang/Exception"], vx_ot w = true)
    (d0 : decode cc pc = .ok (.new ik, 3)) (d3 : decode cc (pc + 3) = .ok (.dup, 1)) (d4 : decode cc (pc + 4) = .ok (.ldc_w is, 3)) (d7 : decode cc (pc + 7) = .ok (.invokespecial ic, 3)) (d10 : decode cc (pc + 10) = .ok (.athrow, 1))
    (hrm : 5 < rm.frames ∧ 8 + 82 ≤ rm.locals ∧ kc + 1 ≤ rm.cells ∧ ks + 6 ≤ rm.slots) (hcat : (st.map fun v => v.category).sum ≤ 8) (hmc : kc + 1 ≤ mc ∧ ks + 6 ≤ ms) : Z Θ nL kc ks (zQX Θ (.inr (x, σ)) mc ms) σ pc lv st := fun H locs ls hH hS hl => by
  obtain ⟨hx, hb0, hml, hown, hts, hlk, hrr, hrmm, hK, hinj, hA, hA2, hE⟩ := id C
  refine vx_throwSW (names := ["java/lang/RuntimeException", "java/lang/Exception"]) hx hb0 hl0 hown hf (by decide +kernel) (hts _ hk) (hts _ hini) (hE.2.1 _ hstr) (vx_hat (fun w hw => hts w (hg w hw)) hn (fun w hw => va_Nw.use ?_ (hK.2.1 w hw))) hot hE.2.2.2.2.1 hE.2.2.2.2.2 hS (by rw [hl.1, hml]) d0 d3 d4 d7 d10 (fun z hz => (het z hz).elim) (by rw [hrmm]; exact hrm.1) (by rw [hrmm]; show _ + 82 ≤ _; omega) (by rw [hrmm]; exact hrm.2.2.1) (by rw [hrmm]; exact hrm.2.2.2) hlk (zx_thrown C hH hS) hS.2.2 hmc.1 hmc.2
  have h9 := nest_all w hw
  cases w <;> first | rfl | cases h9
/-- behind the call of a check -/
theorem zx_after {a : Array Value} {v : Option Nat} {mc2 ms2 : Nat} {ω : Om} (C : Zc Θ cc nL own ret rm) (het : ∀ x ∈ Θ.2.2.1.2.exceptionTable.toList, False) {H : Heap} {locs : List Loc} {ls : Array Slot} (hS : va_S Θ.2.2.2.1 Θ.2.1.1.heap H locs) (hl : lv_has ls nL lv)
    (hr : vx_Run Θ.1.1 Θ.1.2.1 Θ.1.2.2.1 Θ.1.2.2.2 Θ.2.1.1 Θ.2.1.2.1 Θ.2.1.2.2.1 Θ.2.1.2.2.2 Θ.2.2.1.1 Θ.2.2.1.2 H locs kc ks mc2 ms2 (F0 Θ.2.1.2.1 pc ls st0) st (QX Θ.2.2.2.2.1 Θ.2.2.2.2.2 (AA Θ.2.2.2.2.1 Θ.2.2.2.2.2 H.size) (omN v σ) a) (XX Θ.2.2.2.2.1 Θ.2.2.2.2.2 (AA Θ.2.2.2.2.1 Θ.2.2.2.2.2 H.size) (omN v σ)) (AA Θ.2.2.2.2.1 Θ.2.2.2.2.2 H.size))
    (hmc : kc + mc2 ≤ mc ∧ ks + ms2 ≤ ms) (kx : ∀ e, v = some e → ω = .inr (e, σ)) (kk : v = none → Z Θ nL (kc + mc2) (ks + ms2) (zQX Θ ω mc ms) σ (pc + 3) lv st) : zW Θ H locs kc ks (zQX Θ ω mc ms) (F0 Θ.2.1.2.1 pc ls st0) := by
  intro T hT X
  obtain ⟨hx, hb0, hml, hown, hts, hlk, hrr, hrm, hK, hinj, hA, hA2, hE⟩ := id C
  have hAA : ∀ q, AA Θ.2.2.2.2.1 Θ.2.2.2.2.2 H.size q → Θ.2.2.2.1 q := fun q h => by
    rcases h with ⟨i, hi, rfl⟩ | h
    · exact hA i hi
    · exact hA2 q (Nat.le_trans hS.1 h)
  rcases hr T hT X with ⟨r, st₀, t, T', L, h0, X', hL, e1, e2, hq, hst⟩ | ⟨q, st₀, t, T', L, E, ce, h0, X', hL, e1, e2, hxc, hce, hcv, hcl, hst⟩
  · cases hv : v with
    | some e => rw [hv] at hq; exact hq.elim
    | none =>
      rw [hv] at hq
      obtain ⟨⟨hr0, hb⟩, hz, hk⟩ := hq
      cases hr0
      rw [h0] at hz hk
      obtain ⟨t2, a1, b1⟩ := kk hv T'.heap (locs ++ L) ls (by rw [e1]; exact hb) ⟨Nat.le_trans hS.1 (by rw [e1]; exact hz), fun q h1 h2 => by rw [e1, hk q (Nat.lt_of_lt_of_le h1 hS.1) (fun z => h2 (hAA q z))]; exact hS.2.1 q h1 h2, fun q hq => by
        rcases List.mem_append.mp hq with h | h
        · exact hS.2.2 q h
        · exact hAA _ (hL q h)⟩ hl T' rfl X'
      exact ⟨t2, hst t2 a1, b1⟩
  · cases hv : v with
    | none => rw [hv] at hxc; exact hxc.elim
    | some e =>
      rw [hv] at hxc
      obtain ⟨rfl, hb, hz, hk⟩ := hxc
      rw [h0] at hz hk
      have hω := kx e hv
      subst hω
      have hout := vx_out (p := Θ.1.1) (l := Θ.1.2.1) (e := Θ.1.2.2.1) (R := Θ.1.2.2.2) (s := Θ.2.1.1) (m := Θ.2.1.2.1) (args := Θ.2.1.2.2.1) (below := Θ.2.1.2.2.2) (meth := Θ.2.2.1.1) (c := Θ.2.2.1.2) (H := T'.heap) (locs := locs ++ L) (cells := kc + mc2) (slots := ks + ms2) (ls := ls) (rest := st) (pc := pc) (E := exn e) (ce := ce) (q := q) (mc := mc) (ms := ms) (Qc := QX Θ.2.2.2.2.1 Θ.2.2.2.2.2 Θ.2.2.2.1 (.inr (e, σ))) (XC := XX Θ.2.2.2.2.1 Θ.2.2.2.2.2 Θ.2.2.2.1 (.inr (e, σ))) (free := Θ.2.2.2.1) (fun z hz => (het z hz).elim) hlk (by rw [e1]; exact hce) hcv hcl (fun t9 ht9 _ => ⟨rfl, by rw [ht9, e1]; exact hb, by rw [ht9, e1]; exact Nat.le_trans hS.1 hz, fun q h1 h2 => by rw [ht9, e1, hk q (Nat.lt_of_lt_of_le h1 hS.1) (fun z => h2 (hAA q z))]; exact hS.2.1 q h1 h2⟩) (fun z hz => by
        rcases List.mem_append.mp hz with h | h
        · exact hS.2.2 z h
        · exact hAA _ (hL z h)) hmc.1 hmc.2
      obtain ⟨t2, a1, b1⟩ := hout T' rfl X'
      exact ⟨t2, hst.trans a1, b1⟩
theorem zx_callV (C : Zc Θ cc nL own ret rm) (het : ∀ x ∈ Θ.2.2.1.2.exceptionTable.toList, False) {y : MethodName} {c2 : ByteArray} {n2 idx : Nat} {r2 : Option FieldType} {rm2 : Room} {ω : Om} (i : Nat) (av : List Value) (v : Option Nat) (mc2 ms2 n : Nat) {ci : Nat} {fl : List (Option Nat)} {T : u_T} {N : Nat} (hki : Θ.2.2.2.2.1[i]? = some (.inr (.inl (ci, fl)))) (hc : classes[ci]? = some (y.cls, T, N))
    (hM : zX Θ.1.2.1 Θ.2.2.2.2.1 Θ.2.2.2.2.2 y c2 n2 r2 rm2 (.ref (zA Θ i) :: av) σ (omN v σ) mc2 ms2)
    (hcode : Cond.code y c2 n2 r2 ∈ TB) (hlink : Cond.methodLink own idx y ∈ TB) (hinst : Cond.instanceMethod y ∈ TB) (hsel : Cond.selects y.cls y y ∈ TB) (hini : Cond.initialized y.cls ∈ TB) (hrm : rm2.cells = mc2 ∧ rm2.slots = ms2 ∧ rm2.frames + 1 ≤ rm.frames ∧ 8 + (n2 + 11) + rm2.locals ≤ rm.locals)
    (hy : y.cls ≠ "java/lang/invoke/MethodHandle" ∧ y.cls ≠ "java/lang/invoke/VarHandle" ∧ (parseMethodDescriptor y.desc).map (fun d => d.parameters.length) = some n) (hn : av.length = n) (hst : st0 = av.reverse ++ .ref (zA Θ i) :: st) (hcat : (st.map fun v => v.category).sum ≤ 8) (hk : kc + mc2 ≤ rm.cells ∧ ks + ms2 ≤ rm.slots)
    (hd : decode cc pc = .ok (.invokevirtual idx, 3)) (hmc : kc + mc2 ≤ mc ∧ ks + ms2 ≤ ms) (kx : ∀ e, v = some e → ω = .inr (e, σ)) (kk : v = none → Z Θ nL (kc + mc2) (ks + ms2) (zQX Θ ω mc ms) σ (pc + 3) lv st) : Z Θ nL kc ks (zQX Θ ω mc ms) σ pc lv st0 := by
  intro H locs ls hH hS hl
  obtain ⟨hx, hb0, hml, hown, hts, hlk, hrr, hrmm, hK, hinj, hA, hA2, hE⟩ := id C
  have hts2 : ∀ w ∈ (Cond.code y c2 n2 r2 :: TB), w.before Θ.2.1.2.2.1 Θ.2.1.1 = true := fun w hw => (List.mem_cons.mp hw).elim (fun e => by rw [e]; exact hts _ hcode) (hts w)
  subst hst
  have cw := callB_of (R := Θ.1.2.2.2) (own := own) (index := idx) n hts2 (tb_GoodIn hcode) rfl hrm.1 hrm.2.1 (hts _ hini) (hts _ hlink) hy (by rw [hrmm]; exact ⟨hrm.2.2.1, hrm.2.2.2⟩)
  have hP : va_P Θ.2.2.2.2.2.1 classes [(zA Θ i, .inr (ci, fvals Θ.2.2.2.2.2.2.2.1 (σ i) 0 fl))] H := fun k q hq => by
    have h1 := hH i _ hki
    match k, hq with
    | 0, hq => cases hq; exact h1
    | k + 1, hq => simp at hq
  exact zx_after C het hS hl (vx_runV (C := y.cls) (rest := st) ⟨hx, hb0, hml, hown, hts⟩ (hM H.size) ⟨cw, hts _ hinst, hts _ hsel⟩ ⟨zP_blind, va_recv (q0 := 0) hK.1 hP hc rfl, z_pre C hS hH⟩ rfl hn hl.1 rfl (lv_room hcat) hd (by rw [hrmm]; exact hk)) hmc kx kk
theorem zx_callS (C : Zc Θ cc nL own ret rm) (het : ∀ x ∈ Θ.2.2.1.2.exceptionTable.toList, False) {y : MethodName} {c2 : ByteArray} {n2 idx : Nat} {r2 : Option FieldType} {rm2 : Room} {ω : Om} (av : List Value) (v : Option Nat) (mc2 ms2 n : Nat) (hM : zX Θ.1.2.1 Θ.2.2.2.2.1 Θ.2.2.2.2.2 y c2 n2 r2 rm2 av σ (omN v σ) mc2 ms2)
    (hcode : Cond.code y c2 n2 r2 ∈ TB) (hlink : Cond.methodLink own idx y ∈ TB) (hstat : Cond.static y ∈ TB) (hini : Cond.initialized y.cls ∈ TB) (hrm : rm2.cells = mc2 ∧ rm2.slots = ms2 ∧ rm2.frames + 1 ≤ rm.frames ∧ 8 + (n2 + 11) + rm2.locals ≤ rm.locals)
    (hy : y.cls ≠ "java/lang/invoke/MethodHandle" ∧ y.cls ≠ "java/lang/invoke/VarHandle" ∧ (parseMethodDescriptor y.desc).map (fun d => d.parameters.length) = some n) (hn : av.length = n) (hst : st0 = av.reverse ++ st) (hcat : (st.map fun v => v.category).sum ≤ 8) (hk : kc + mc2 ≤ rm.cells ∧ ks + ms2 ≤ rm.slots)
    (hd : decode cc pc = .ok (.invokestatic idx, 3)) (hmc : kc + mc2 ≤ mc ∧ ks + ms2 ≤ ms) (kx : ∀ e, v = some e → ω = .inr (e, σ)) (kk : v = none → Z Θ nL (kc + mc2) (ks + ms2) (zQX Θ ω mc ms) σ (pc + 3) lv st) : Z Θ nL kc ks (zQX Θ ω mc ms) σ pc lv st0 := by
  intro H locs ls hH hS hl
  obtain ⟨hx, hb0, hml, hown, hts, hlk, hrr, hrmm, hK, hinj, hA, hA2, hE⟩ := id C
  have hts2 : ∀ w ∈ (Cond.code y c2 n2 r2 :: TB), w.before Θ.2.1.2.2.1 Θ.2.1.1 = true := fun w hw => (List.mem_cons.mp hw).elim (fun e => by rw [e]; exact hts _ hcode) (hts w)
  subst hst
  have cw := callB_of (R := Θ.1.2.2.2) (own := own) (index := idx) n hts2 (tb_GoodIn hcode) rfl hrm.1 hrm.2.1 (hts _ hini) (hts _ hlink) hy (by rw [hrmm]; exact ⟨hrm.2.2.1, hrm.2.2.2⟩)
  exact zx_after C het hS hl (vx_runS (rest := st) ⟨hx, hb0, hml, hown, hts⟩ (hM H.size) ⟨cw, hts _ hstat⟩ ⟨zP_blind, z_pre C hS hH⟩ rfl hn hl.1 rfl (lv_room hcat) hd (by rw [hrmm]; exact hk)) hmc kx kk
end
